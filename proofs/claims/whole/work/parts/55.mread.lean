/-! THE MODEL'S READER: its walk is the pure reading -/
theorem tl_pre : ∀ {A X : NL} {m k : Nat}, wf A m → k ≤ m → tl (A ++ X) k = tl A k
  | [], X, m, k, h, hk => by
    have h : m = 0 := h
    have : k = 0 := by omega
    subst this
    rw [tl_0, tl_0]
  | _ :: _, X, 0, k, h, _ => h.elim
  | x :: A, X, m + 1, 0, h, _ => rfl
  | x :: A, X, m + 1, k + 1, h, hk => by
    have ih := tl_pre (A := A) (X := X) (k := (x 7).toNat + k) h (by omega)
    simp only [List.cons_append, tl, ih]
/-- sizes stay as more is written -/
theorem sz_app {L T X : NL} {k : Nat} (w : wf T k) {i : Int} (h0 : ln L ≤ i) (h1 : i < ln (L ++ T)) : sz (L ++ T ++ X) i = sz (L ++ T) i := by
  have l0 := ln_nn L
  unfold ln at h0 h1
  have hd : ∀ Y : NL, (L ++ Y).drop i.toNat = Y.drop (i.toNat - L.length) := fun Y => by
    rw [List.drop_append, List.drop_eq_nil_of_le (by omega), List.nil_append]
  unfold sz
  rw [List.append_assoc, hd, hd]
  have hj : i.toNat - L.length < T.length := by
    rw [List.length_append] at h1
    omega
  rw [List.drop_append_of_le_length (by omega)]
  obtain ⟨m, hm⟩ := wf_drop (i.toNat - L.length) w (by omega)
  have : 1 ≤ m := by
    match m, hm with
    | 0, hm =>
      exfalso
      rw [List.drop_eq_getElem_cons hj] at hm
      exact hm.elim
    | m + 1, _ => omega
  rw [tl_pre hm this]
theorem sz_at {L T : NL} {x : Nd} (w : wf T (x 7).toNat) : sz (L ++ [x] ++ T) (ln L) = ln T + 1 := by
  unfold sz ln
  rw [List.append_assoc, List.drop_append, show ((L.length : Nat) : Int).toNat = L.length by omega, List.drop_length, Nat.sub_self, List.nil_append, List.drop_zero]
  show ((1 + tl T ((x 7).toNat + 0) : Nat) : Int) = _
  rw [Nat.add_zero, wf_tl w]
  omega
theorem nd_appL {L X : NL} {i : Int} (h0 : 0 ≤ i) (h1 : i < ln L) : nd (L ++ X) i = nd L i := by
  unfold nd
  unfold ln at h1
  rw [List.getD_eq_getElem?_getD, List.getD_eq_getElem?_getD, List.getElem?_append_left (by omega)]
theorem okL_mem {E : Ev} {L T : NL} (ol : okL E L) (o : ∀ x ∈ T, okN E x) : okL E (L ++ T) := by
  intro i i0 i1
  by_cases c : i < ln L
  · rw [nd_appL i0 c]
    exact ol i i0 c
  · rw [ln_app] at i1
    unfold ln at i1 c
    unfold nd
    rw [List.getD_eq_getElem?_getD, List.getElem?_append_right (by omega), List.getElem?_eq_getElem (by omega)]
    exact o _ (List.getElem_mem _)
theorem okS_mem {E : Ev} {L T : NL} {s : Stk} (os : okS E L s) : okS E (L ++ T) s := fun e he => by
  have := os e he
  rw [nd_appL this.1 this.2.1]
  exact ⟨this.1, by rw [ln_app]; have := ln_nn T; omega, this.2.2⟩
/-- ends as they must be behind a reading -/
def enOk (L R : NL) (en en' : Int → Int) : Prop := (∀ i : Int, i < ln L → en' i = en i) ∧ ∀ i : Int, ln L ≤ i → i < ln R → en' i = i + sz R i
section
variable {g : Gl} {D : Nat} {h0 : Hp} {E : Ev} {B : Int → Int} {n : Int} {ip : Bool} {mo : Int} {Qf : Hp → Prop}
/-- the loop of read -/
def QL (g : Gl) (D : Nat) (Qf : Hp → Prop) (h : Hp) : Prop := L0 g D m10_read (retV Qf) 40 [some (LR 10 608), none, none] h
def Go (g : Gl) (D : Nat) (Qf : Hp → Prop) (h0 : Hp) (ip : Bool) (mo : Int) (L : NL) (p : Int) (s : Stk) (en : Int → Int) : Prop := ∀ h : Hp, MSt h0 ip mo L p s en h → (h 608 28 = 1 ∨ s ≠ []) → QL g D Qf h
theorem go_step (ok : okE E) (me : mE E h0) (mx : mX B n h0) {L : NL} (ol : okL E L) (hmo : mo ≤ 120) (lm : ln L ≤ mo) {s : Stk} (hs : s.length ≤ 12) (os : okS E L s) {p : Int} (p0 : 0 ≤ p) (p1 : p ≤ n) {en : Int → Int} (C : NPo h0 E B n ip mo (QL g (D + 8) Qf) L s en (bl B n p)) : Go g (D + 8) Qf h0 ip mo L p s en := by
  intro h M hw
  refine v10_read_40 (m_fine ?_)
  rw [M.2.2.2.2.2.1]
  have go : L0 g (D + 8) m10_read (retV Qf) 61 [some (LR 10 608), none, none] h := v10_read_61 (fun h1 k1 => m_readNode ok me mx ol hmo lm hs os p0 p1 (M.wt k1) C)
  refine bz (fun z => absurd rfl z) (fun _ _ => ⟨fun _ => go, fun c => ⟨fun c2 => ?_, fun _ => go⟩⟩)
  rw [M.2.2.2.2.2.2.2.1] at c2
  rcases hw with hw | hw
  · omega
  · cases s with
    | nil => exact absurd rfl hw
    | cons _ _ => exfalso; simp at c2; omega
def SN (g : Gl) (D : Nat) (Qf : Hp → Prop) (h0 : Hp) (E : Ev) (B : Int → Int) (n : Int) (ip : Bool) (mo : Int) (f : Nat) : Prop := ∀ (p : Int) (L : NL) (s : Stk) (en : Int → Int), 13 ≤ f + s.length → s.length ≤ 12 → 0 ≤ p → p ≤ n → okL E L → okS E L s → ln L ≤ mo →
  ((rdN E B n ip mo f s.length p L).1 = 0 → (∀ en' : Int → Int, enOk L (rdN E B n ip mo f s.length p L).2.2 en en' → MCl h0 B n ip mo (QL g D Qf) (rdN E B n ip mo f s.length p L).2.2 s (bl B n (rdN E B n ip mo f s.length p L).2.1) en') → Go g D Qf h0 ip mo L p s en) ∧
  ((rdN E B n ip mo f s.length p L).1 ≠ 0 → (∀ h : Hp, MFt h0 (rdN E B n ip mo f s.length p L).1 (rdN E B n ip mo f s.length p L).2.1 h → QL g D Qf h) → Go g D Qf h0 ip mo L p s en)
theorem sp_l (ok : okE E) {f : Nat} (ih : SN g D Qf h0 E B n ip mo f) {x : Int} {P : Nat} {s : Stk} (hf : 13 ≤ f + (s.length + 1)) (hw : s.length < 12) : ∀ (k : Nat) (p : Int) (L : NL) (en : Int → Int), k < P → 0 ≤ p → p ≤ n → okL E L → okS E L s → ln L ≤ mo → 0 ≤ x → x < ln L → nd L x 0 = 0 → nd L x 7 = P →
    ((rdP B n (rdN E B n ip mo f (s.length + 1)) (k + 1) p L).1 = 0 → (∀ en' : Int → Int, enOk L (rdP B n (rdN E B n ip mo f (s.length + 1)) (k + 1) p L).2.2 en en' → MCl h0 B n ip mo (QL g D Qf) (rdP B n (rdN E B n ip mo f (s.length + 1)) (k + 1) p L).2.2 s (bl B n (rdP B n (rdN E B n ip mo f (s.length + 1)) (k + 1) p L).2.1) (fup en' x (ln (rdP B n (rdN E B n ip mo f (s.length + 1)) (k + 1) p L).2.2))) → Go g D Qf h0 ip mo L p ((x, P - (k + 1)) :: s) en) ∧
    ((rdP B n (rdN E B n ip mo f (s.length + 1)) (k + 1) p L).1 ≠ 0 → (∀ h : Hp, MFt h0 (rdP B n (rdN E B n ip mo f (s.length + 1)) (k + 1) p L).1 (rdP B n (rdN E B n ip mo f (s.length + 1)) (k + 1) p L).2.1 h → QL g D Qf h) → Go g D Qf h0 ip mo L p ((x, P - (k + 1)) :: s) en) := by
  intro k
  induction k with
  | zero =>
    intro p L en hk p0 p1 ol os lm x0 x1 xh x7
    have r := rdN_ok (B := B) (n := n) (ip := ip) (mo := mo) ok f (s.length + 1) p L hf (by omega) p0 p1 lm
    have I := ih p L ((x, (P : Int) - (0 + 1)) :: s) en hf (by simp; omega) p0 p1 ol (fun e he => by
      rcases List.mem_cons.mp he with rfl | z
      · exact ⟨x0, x1, by simp; omega, fun _ => by rw [x7]; simp; omega⟩
      · exact os e z) lm
    simp only [List.length_cons] at I
    unfold rdP
    generalize hR : rdN E B n ip mo f (s.length + 1) p L = R at *
    by_cases c : R.1 = 0
    · obtain ⟨T, eT, wT, oT, lT⟩ := r.2.2.2.2 c
      rw [if_neg (fun z => z c)]
      have nx : nd R.2.2 x = nd L x := by rw [eT]; exact nd_appL x0 x1
      by_cases c2 : byt B n (bl B n R.2.1) = due 0
      · rw [if_pos c2]
        refine ⟨fun _ C => I.1 c (fun en' he => ?_), fun z => absurd rfl z⟩
        unfold MCl
        rw [if_neg (fun z => z (by simp only [nx]; exact xh)), if_pos (by simp only [nx, x7]; omega), if_pos (show byt B n (bl B n R.2.1) = 41 from c2)]
        exact C en' he
      · rw [if_neg c2]
        refine ⟨fun z => ?_, fun _ C => I.1 c (fun en' he => ?_)⟩
        · simp only at z
          split at z <;> exact absurd z (by decide)
        · unfold MCl
          rw [if_neg (fun z => z (by simp only [nx]; exact xh)), if_pos (by simp only [nx, x7]; omega), if_neg (show ¬ byt B n (bl B n R.2.1) = 41 from c2)]
          exact C
    · rw [if_pos c]
      exact ⟨fun z => absurd z c, fun _ C => I.2 c C⟩
  | succ k ihk =>
    intro p L en hk p0 p1 ol os lm x0 x1 xh x7
    have r := rdN_ok (B := B) (n := n) (ip := ip) (mo := mo) ok f (s.length + 1) p L hf (by omega) p0 p1 lm
    have I := ih p L ((x, (P : Int) - ((k + 1 : Nat) + 1)) :: s) en hf (by simp; omega) p0 p1 ol (fun e he => by
      rcases List.mem_cons.mp he with rfl | z
      · exact ⟨x0, x1, by simp; omega, fun _ => by rw [x7]; simp; omega⟩
      · exact os e z) lm
    simp only [List.length_cons] at I
    unfold rdP
    generalize hR : rdN E B n ip mo f (s.length + 1) p L = R at *
    by_cases c : R.1 = 0
    · obtain ⟨T, eT, wT, oT, lT⟩ := r.2.2.2.2 c
      rw [if_neg (fun z => z c)]
      have nx : nd R.2.2 x = nd L x := by rw [eT]; exact nd_appL x0 x1
      have b1 := bl_p (B := B) (n := n) (p := R.2.1)
      have b1' := b1.2.1 r.2.1
      have r0 := r.1
      have lR : ln L ≤ ln R.2.2 := by rw [eT, ln_app]; have := ln_nn T; omega
      by_cases c2 : byt B n (bl B n R.2.1) = due (k + 1)
      · rw [if_pos c2]
        have c3 := byt_in (B := B) (n := n) (i := bl B n R.2.1) (by rw [c2]; exact due_nn _)
        have r2 := rdP_ok (B := B) (n := n) (mo := mo) (E := E) (rd := rdN E B n ip mo f (s.length + 1)) (fun p L => rdN_ok ok f (s.length + 1) p L hf (by omega)) (k + 1) (bl B n R.2.1 + 1) R.2.2 (by omega) (by omega) (by rw [eT]; exact lT)
        have J := fun en2 => ihk (bl B n R.2.1 + 1) R.2.2 en2 (by omega) (by omega) (by omega) (by rw [eT]; exact okL_mem ol oT) (by rw [eT]; exact okS_mem os) (by rw [eT]; exact lT) x0 (by omega) (by rw [nx]; exact xh) (by rw [nx]; exact x7)
        have again : ∀ en2 : Int → Int, (Go g D Qf h0 ip mo R.2.2 (bl B n R.2.1 + 1) ((x, (P : Int) - (k + 1)) :: s) en2) → MCl h0 B n ip mo (QL g D Qf) R.2.2 ((x, (P : Int) - ((k + 1 : Nat) + 1)) :: s) (bl B n R.2.1) en2 := by
          intro en2 G
          unfold MCl
          rw [if_neg (fun z => z (by simp only [nx]; exact xh)), if_neg (by simp only [nx, x7]; omega), if_pos (show byt B n (bl B n R.2.1) = 44 from c2)]
          intro h M
          refine G h ?_ (Or.inr (by simp))
          simp only at M
          rwa [show (P : Int) - ((k + 1 : Nat) + 1) + 1 = (P : Int) - (k + 1) by omega] at M
        refine ⟨fun z C => I.1 c (fun en2 he2 => again en2 ((J en2).1 z (fun en' he' => C en' ⟨fun i hi => ?_, fun i i0 i1 => ?_⟩))), fun z C => I.1 c (fun en2 he2 => again en2 ((J en2).2 z C))⟩
        · rw [he'.1 i (by omega)]
          exact he2.1 i hi
        · by_cases c5 : i < ln R.2.2
          · rw [he'.1 i c5, he2.2 i i0 c5]
            obtain ⟨T2, eT2, _, _, _⟩ := r2.2.2.2.2 z
            rw [eT2, eT]
            rw [eT] at c5
            rw [sz_app wT i0 c5]
          · exact he'.2 i (by omega) i1
      · rw [if_neg c2]
        refine ⟨fun z => ?_, fun _ C => I.1 c (fun en' he => ?_)⟩
        · simp only at z
          split at z <;> exact absurd z (by decide)
        · unfold MCl
          rw [if_neg (fun z => z (by simp only [nx]; exact xh)), if_neg (by simp only [nx, x7]; omega), if_neg (show ¬ byt B n (bl B n R.2.1) = 44 from c2)]
          exact C
    · rw [if_pos c]
      exact ⟨fun z => absurd z c, fun _ C => I.2 c C⟩
theorem en_leaf {L : NL} {x : Nd} {en : Int → Int} (h7 : x 7 = 0) : enOk L (L ++ [x]) en (fup en (ln L) (ln L + 1)) := by
  refine ⟨fun i hi => fup_ne (by omega), fun i i0 i1 => ?_⟩
  rw [ln_app, ln_1] at i1
  have c : i = ln L := by omega
  subst c
  have := sz_at (L := L) (x := x) (T := []) (by rw [h7]; rfl)
  rw [List.append_nil] at this
  rw [fup_at, this]
  show _ = ln L + (0 + 1)
  omega
theorem en_open {L R : NL} {x : Nd} {en en' : Int → Int} {v : Int} {T : NL} (e : R = L ++ [x] ++ T) (w : wf T (x 7).toNat) (he : enOk (L ++ [x]) R (fup en (ln L) v) en') : enOk L R en (fup en' (ln L) (ln R)) := by
  refine ⟨fun i hi => ?_, fun i i0 i1 => ?_⟩
  · rw [fup_ne (by omega), he.1 i (by rw [ln_app, ln_1]; omega), fup_ne (by omega)]
  · by_cases c : i = ln L
    · subst c
      rw [fup_at, e, sz_at w, ln_app, ln_app, ln_1]
      omega
    · rw [fup_ne c]
      exact he.2 i (by rw [ln_app, ln_1]; omega) i1
theorem sn (ok : okE E) (me : mE E h0) (mx : mX B n h0) (hmo : mo ≤ 120) : ∀ f : Nat, SN g (D + 8) Qf h0 E B n ip mo f
  | 0 => fun p L s en hf hs => by omega
  | f + 1 => fun p L s en hf hs p0 p1 ol os lm => by
    have ih := sn ok me mx hmo f
    have l0 := ln_nn L
    have b1 := bl_p (B := B) (n := n) (p := p)
    have b1' := b1.2.1 p1
    have hc9 := fun z => byt_in (B := B) (n := n) (i := bl B n p) z
    have step := fun (C : NPo h0 E B n ip mo (QL g (D + 8) Qf) L s en (bl B n p)) => go_step (g := g) (D := D) (Qf := Qf) ok me mx ol hmo lm hs os p0 p1 C
    unfold rdN
    unfold NPo at step
    generalize hq : bl B n p = q at *
    have q0 : 0 ≤ q := by omega
    generalize hc : byt B n q = c at *
    by_cases c1 : 97 ≤ c ∧ c ≤ 122
    · rw [if_pos c1] at step ⊢
      have c9 := hc9 (by omega)
      have b2 := bl_p (B := B) (n := n) (p := q + 1)
      have b2' := b2.2.1 (by omega)
      by_cases c2 : c - 97 < E 0 1
      · rw [if_neg (fun z => z c2)] at step ⊢
        have hp := ok.2.2.2.2.2 (c - 97) (by omega) c2
        by_cases c3 : ln L < mo
        · rw [if_neg (fun z => z c3)] at step ⊢
          by_cases c4 : byt B n (bl B n (q + 1)) = 40
          · rw [if_pos c4] at step ⊢
            have c8 := byt_in (B := B) (n := n) (i := bl B n (q + 1)) (by omega)
            by_cases c5 : 0 < E 3 (c - 97)
            · rw [if_neg (fun z => z c5)] at step ⊢
              by_cases c6 : 12 ≤ s.length
              · rw [if_pos c6] at step ⊢
                exact ⟨fun z => absurd z (by simp), fun _ C => step C⟩
              · rw [if_neg c6] at step ⊢
                have hP : (E 3 (c - 97)).toNat = ((E 3 (c - 97)).toNat - 1) + 1 := by omega
                have J := fun v => sp_l (g := g) (D := D + 8) (Qf := Qf) ok ih (x := ln L) (P := (E 3 (c - 97)).toNat) (s := s) (by omega) (by omega) ((E 3 (c - 97)).toNat - 1) (bl B n (q + 1) + 1) (L ++ [hdN E (c - 97)]) (fup en (ln L) v) (by omega) (by omega) (by omega) (okL_app ol (okN_hd ok (by omega) c2)) (okS_app os) (by rw [ln_app, ln_1]; omega) l0 (by rw [ln_app, ln_1]; omega) (by rw [nd_app1]; rfl) (by rw [nd_app1]; show E 3 (c - 97) = _; omega)
                rw [← hP] at J
                have r2 := rdP_ok (B := B) (n := n) (mo := mo) (E := E) (rd := rdN E B n ip mo f (s.length + 1)) (fun p L => rdN_ok ok f (s.length + 1) p L (by omega) (by omega)) (E 3 (c - 97)).toNat (bl B n (q + 1) + 1) (L ++ [hdN E (c - 97)]) (by omega) (by omega) (by rw [ln_app, ln_1]; omega)
                have z0 : (((E 3 (c - 97)).toNat : Nat) : Int) - ((((E 3 (c - 97)).toNat - 1 : Nat) : Int) + 1) = 0 := by omega
                rw [z0] at J
                refine ⟨fun z C => step (fun v h M => (J v).1 z (fun en' he => C _ ?_) h M (Or.inr (by simp))), fun z C => step (fun v h M => (J v).2 z C h M (Or.inr (by simp)))⟩
                obtain ⟨T, eT, wT, _, _⟩ := r2.2.2.2.2 z
                exact en_open eT wT he
            · rw [if_pos c5] at step ⊢
              exact ⟨fun z => absurd z (by simp), fun _ C => step C⟩
          · rw [if_neg c4] at step ⊢
            by_cases c5 : 0 < E 3 (c - 97)
            · rw [if_pos c5] at step ⊢
              exact ⟨fun z => absurd z (by simp), fun _ C => step C⟩
            · rw [if_neg c5] at step ⊢
              refine ⟨fun _ C => step ?_, fun z => absurd rfl z⟩
              have := C _ (en_leaf (show hdN E (c - 97) 7 = 0 by show E 3 _ = 0; omega))
              rwa [bl_bl] at this
        · rw [if_pos c3] at step ⊢
          exact ⟨fun z => absurd z (by simp), fun _ C => step C⟩
      · rw [if_pos c2] at step ⊢
        exact ⟨fun z => absurd z (by simp), fun _ C => step C⟩
    · rw [if_neg c1] at step ⊢
      by_cases c2 : c = 45 ∨ (48 ≤ c ∧ c ≤ 57)
      · rw [if_pos c2] at step ⊢
        by_cases c3 : (nuR B n q).1 = 3
        · rw [if_pos c3] at step ⊢
          exact ⟨fun z => absurd z (by simp), fun _ C => step C⟩
        · rw [if_neg c3] at step ⊢
          by_cases c4 : ln L < mo
          · rw [if_neg (fun z => z c4)] at step ⊢
            by_cases c5 : (nuR B n q).1 = 0
            · rw [if_neg (fun z => z c5)] at step ⊢
              exact ⟨fun _ C => step (C _ (en_leaf rfl)), fun z => absurd rfl z⟩
            · rw [if_pos c5] at step ⊢
              exact ⟨fun z => absurd z c5, fun _ C => step C⟩
          · rw [if_pos c4] at step ⊢
            exact ⟨fun z => absurd z (by simp), fun _ C => step C⟩
      · rw [if_neg c2] at step ⊢
        by_cases c3 : ip = true ∧ c = 63
        · rw [if_pos c3] at step ⊢
          have c9 := hc9 (by omega)
          by_cases c4 : ln L < mo
          · rw [if_neg (fun z => z c4)] at step ⊢
            have r := hoR_ok (E := E) (B := B) (n := n) (p := q + 1) (by omega) (by omega) ok.1
            by_cases c5 : (hoR E B n (q + 1)).1 = 0
            · rw [if_neg (fun z => z c5)]
              refine ⟨fun _ C => step ⟨fun _ => C _ (en_leaf (r.2.2.2 c5).2), fun z => absurd c5 z⟩, fun z => absurd rfl z⟩
            · rw [if_pos c5]
              exact ⟨fun z => absurd z c5, fun _ C => step ⟨fun z => absurd z c5, fun _ => C⟩⟩
          · rw [if_pos c4] at step ⊢
            exact ⟨fun z => absurd z (by simp), fun _ C => step C⟩
        · rw [if_neg c3] at step ⊢
          have over : ∀ (v : Int) (q2 : Int), (v = 3 ∨ v = 4) → s.length < 12 → ln L < mo → 0 ≤ q2 → q2 ≤ n → ((∀ (w : Int) (h : Hp), MSt h0 ip mo (L ++ [ovN v]) q2 ((ln L, 0) :: s) (fup en (ln L) w) h → QL g (D + 8) Qf h) → Go g (D + 8) Qf h0 ip mo L p s en) →
              ((rdN E B n ip mo f (s.length + 1) q2 (L ++ [ovN v])).1 = 0 → (∀ en' : Int → Int, enOk L (rdN E B n ip mo f (s.length + 1) q2 (L ++ [ovN v])).2.2 en en' → MCl h0 B n ip mo (QL g (D + 8) Qf) (rdN E B n ip mo f (s.length + 1) q2 (L ++ [ovN v])).2.2 s (bl B n (rdN E B n ip mo f (s.length + 1) q2 (L ++ [ovN v])).2.1) en') → Go g (D + 8) Qf h0 ip mo L p s en) ∧
              ((rdN E B n ip mo f (s.length + 1) q2 (L ++ [ovN v])).1 ≠ 0 → (∀ h : Hp, MFt h0 (rdN E B n ip mo f (s.length + 1) q2 (L ++ [ovN v])).1 (rdN E B n ip mo f (s.length + 1) q2 (L ++ [ovN v])).2.1 h → QL g (D + 8) Qf h) → Go g (D + 8) Qf h0 ip mo L p s en) := by
            intro v q2 hv hs2 hl a0 a1 st
            have lx : ln (L ++ [ovN v]) = ln L + 1 := by rw [ln_app, ln_1]
            have J := fun w => ih q2 (L ++ [ovN v]) ((ln L, 0) :: s) (fup en (ln L) w) (by simp; omega) (by simp; omega) a0 a1 (okL_app ol (okN_ov hv)) (fun e he => by
              rcases List.mem_cons.mp he with rfl | z
              · exact ⟨l0, by simp only; omega, by simp, fun z => by simp only [nd_app1] at z; have : v = 0 := z; omega⟩
              · exact okS_app os e z) (by omega)
            simp only [List.length_cons] at J
            have r := rdN_ok (B := B) (n := n) (ip := ip) (mo := mo) ok f (s.length + 1) q2 (L ++ [ovN v]) (by omega) (by omega) a0 a1 (by omega)
            generalize rdN E B n ip mo f (s.length + 1) q2 (L ++ [ovN v]) = R at *
            refine ⟨fun z C => st (fun w h M => (J w).1 z (fun en' he => ?_) h M (Or.inr (by simp))), fun z C => st (fun w h M => (J w).2 z C h M (Or.inr (by simp)))⟩
            obtain ⟨T, eT, wT, _, _⟩ := r.2.2.2.2 z
            have nx : nd R.2.2 (ln L) = ovN v := by rw [eT, nd_appL l0 (by omega), nd_app1]
            unfold MCl
            rw [if_pos (by simp only [nx]; show v ≠ 0; omega)]
            exact C _ (en_open (T := T) eT wT he)
          by_cases c4 : ip = true ∧ c = 46
          · rw [if_pos c4] at step ⊢
            have c9 := hc9 (by omega)
            by_cases c5 : ln L < mo
            · rw [if_neg (fun z => z c5)] at step ⊢
              by_cases c6 : 12 ≤ s.length
              · rw [if_pos c6] at step ⊢
                exact ⟨fun z => absurd z (by simp), fun _ C => step C⟩
              · rw [if_neg c6] at step ⊢
                by_cases c7 : byt B n (q + 1) = 46
                · rw [if_neg (fun z => z c7)] at step ⊢
                  have c8 := byt_in (B := B) (n := n) (i := q + 1) (by omega)
                  exact over 3 (q + 2) (Or.inl rfl) (by omega) c5 (by omega) (by omega) step
                · rw [if_pos c7] at step ⊢
                  exact ⟨fun z => absurd z (by simp), fun _ C => step C⟩
            · rw [if_pos c5] at step ⊢
              exact ⟨fun z => absurd z (by simp), fun _ C => step C⟩
          · rw [if_neg c4] at step ⊢
            by_cases c5 : ip = true ∧ c = 33
            · rw [if_pos c5] at step ⊢
              have c9 := hc9 (by omega)
              by_cases c6 : ln L < mo
              · rw [if_neg (fun z => z c6)] at step ⊢
                by_cases c7 : 12 ≤ s.length
                · rw [if_pos c7] at step ⊢
                  exact ⟨fun z => absurd z (by simp), fun _ C => step C⟩
                · rw [if_neg c7] at step ⊢
                  exact over 4 (q + 1) (Or.inr rfl) (by omega) c6 (by omega) (by omega) step
              · rw [if_pos c6] at step ⊢
                exact ⟨fun z => absurd z (by simp), fun _ C => step C⟩
            · rw [if_neg c5] at step ⊢
              exact ⟨fun z => absurd z (by simp), fun _ C => step C⟩
end
