/-! MATCHING, the model: its walk is the pure one -/
def mkI (inn : Bool) : List (Int × Int) := if inn = true then [(-2, 0)] else []
section
variable {P T : NL} {FH AL : Int → Int → Prop}
theorem kp_1 {fill : Fl} {s : St} : (kpW fill s).1 = s.1 ∧ (kpW fill s).2.1 = s.2.1 := by
  unfold kpW
  split
  · exact ⟨rfl, rfl⟩
  · split <;> exact ⟨rfl, rfl⟩
/-- what the end of a walk says of spent and many -/
def wIn (inn : Bool) (R : Bool × St) : Prop := (R.1 = false → R.2.2.1 = 0 ∧ R.2.2.2.1 = 0) ∧ (inn = true → R.2.2.2.1 = 0) ∧ (R.1 = true → inn = false → R.2.2.1 = 1 ∨ R.2.2.2.1 = 1) ∧ okSt R.2
theorem wIn_or {inn : Bool} {gf : Nat → St → Bool × St} : ∀ (m i : Nat) (s : St), (∀ (j : Nat) (s : St), i ≤ j → j < i + m → s.2.1 = 0 → s.2.2.1 = 0 → okSt s → wIn inn (gf j s)) → s.2.1 = 0 → s.2.2.1 = 0 → okSt s → wIn inn (orL gf m i s)
  | 0, i, s, _, h1, h2, os => ⟨fun _ => ⟨h1, h2⟩, fun _ => h2, fun z => absurd z (by simp [orL]), os⟩
  | m + 1, i, s, hg, h1, h2, os => by
    have H := hg i s (Nat.le_refl _) (by omega) h1 h2 os
    unfold orL
    split
    · rename_i c
      exact ⟨fun z => absurd z (by simp), H.2.1, fun _ => H.2.2.1 c, H.2.2.2⟩
    · rename_i c
      have c : (gf i s).1 = false := by simpa using c
      exact wIn_or m (i + 1) _ (fun j s j0 j1 => hg j s (by omega) (by omega)) (H.1 c).1 (H.1 c).2 H.2.2.2
theorem W_in (oP : ∀ p : Int, 0 ≤ p → p < ln P → ((nd P p 0 = 3 ∨ nd P p 0 = 4) → (nd P p 7).toNat = 1) ∧ (nd P p 7).toNat ≤ 4) (o34 : ∀ p : Int, 0 ≤ p → p < ln P → ¬ nd P p 0 = 0 → ¬ nd P p 0 = 1 → ¬ nd P p 0 = 2 → nd P p 0 = 3 ∨ nd P p 0 = 4) (wP : wf P 1) (wT : wf T 1) (hd : ∀ p t : Int, 0 ≤ p → p < ln P → 0 ≤ t → t < ln T → nd P p 0 = 0 → nd P p 1 = nd T t 1 → (nd P p 7).toNat = (nd T t 7).toNat) : ∀ (f : Nat) (c : List (Int × Int)) (inn : Bool) (fill : Fl) (s : St), okc P T c → wgt P c ≤ f → s.2.1 = 0 → s.2.2.1 = 0 → okSt s → wIn inn (Wk P T FH AL false f c inn fill s) := by
  intro f
  induction f with
  | zero =>
    intro c inn fill s oc hw h1 h2 os
    cases c with
    | nil =>
      cases inn with
      | true => exact ⟨fun z => absurd z (by rw [Wk_t]; simp), fun _ => by rw [Wk_t]; exact h2, fun _ z => absurd z (by simp), by rw [Wk_t]; exact os⟩
      | false =>
        rw [Wk_f]
        have k := okSt_kp (fill := fill) os
        exact ⟨fun z => ⟨by rw [kp_1.2]; exact h1, by show (kpW fill s).2.2.1 = 0; have := k.2.2.2.1; simp at z; omega⟩, fun z => absurd z (by simp), fun z _ => Or.inr (by simpa using z), k⟩
    | cons e c =>
      have := wgt_len oc
      simp only [List.length_cons] at this
      omega
  | succ f ih =>
    intro c inn fill s oc hw h1 h2 os
    cases c with
    | nil =>
      cases inn with
      | true => exact ⟨fun z => absurd z (by rw [Wk_t]; simp), fun _ => by rw [Wk_t]; exact h2, fun _ z => absurd z (by simp), by rw [Wk_t]; exact os⟩
      | false =>
        rw [Wk_f]
        have k := okSt_kp (fill := fill) os
        exact ⟨fun z => ⟨by rw [kp_1.2]; exact h1, by show (kpW fill s).2.2.1 = 0; have := k.2.2.2.1; simp at z; omega⟩, fun z => absurd z (by simp), fun z _ => Or.inr (by simpa using z), k⟩
    | cons e c =>
      obtain ⟨p, t⟩ := e
      obtain ⟨p0, p1, t0, t1⟩ := oc (p, t) List.mem_cons_self
      simp only at p0 p1 t0 t1
      have oc' : okc P T c := fun x hx => oc x (List.mem_cons_of_mem _ hx)
      have wl := wgt_len oc'
      have sp := sz_pos (L := P) p0 p1
      simp only [wgt] at hw
      have eW : Wk P T FH AL false (f + 1) ((p, t) :: c) inn fill s = if 2000 ≤ s.1 then (true, (s.1, 1, s.2.2)) else Wn P T FH AL (Wk P T FH AL false f) p t c inn fill (s.1 + 1, s.2) := rfl
      rw [eW]
      split
      · exact ⟨fun z => absurd z (by simp), fun _ => h2, fun _ _ => Or.inl rfl, ⟨os.1, os.2.1, Or.inr rfl, os.2.2.2.1, os.2.2.2.2⟩⟩
      · rename_i c1
        have os' : okSt (s.1 + 1, s.2) := ⟨by have := os.1; simp; omega, by simp; omega, os.2.2.1, os.2.2.2.1, os.2.2.2.2⟩
        have no : wIn inn (false, (s.1 + 1, s.2)) := ⟨fun _ => ⟨h1, h2⟩, fun _ => h2, fun z => absurd z (by simp), os'⟩
        have kp := sz_kd (L := P) p0 p1
        have hl : (nd P p 0 = 3 ∨ nd P p 0 = 4) → p + 1 < ln P ∧ sz P p = 1 + sz P (p + 1) := fun z => by
          have pa := (oP p p0 p1).1 z
          rw [pa, kd_s p0, kd_0] at kp
          have := kd_lt wP p0 p1 (j := 0) (by omega)
          rw [kd_0] at this
          exact ⟨this, by omega⟩
        unfold Wn
        split
        · rename_i c2
          split
          · rename_i c3
            refine wIn_or _ _ _ (fun i s2 _ i1 a1 a2 a3 => ?_) h1 h2 os'
            have wp := prt_wgt (T := T) (t := t) (n := (nd P p 7).toNat) (o := i) (P := P) p0 (nd P p 7).toNat 0
            rw [Nat.zero_add, kp, kd_0] at wp
            have nl : nO P p ≤ ocT.getD (nd P p 7).toNat 0 := by
              unfold nO
              split
              · exact Nat.le_refl _
              · exact (oc_p _ (oP p p0 p1).2).1
            refine ih _ _ _ _ (fun x hx => ?_) (by rw [wgt_app, wp]; omega) a1 a2 a3
            rcases List.mem_append.mp hx with z | z
            · exact okc_prt wP wT p0 p1 t0 t1 rfl (hd p t p0 p1 t0 t1 c2 c3) (oP p p0 p1).2 (by omega) _ 0 (by omega) x z
            · exact oc' x z
          · exact no
        · split
          · split
            · exact ih _ _ _ _ oc' (by omega) h1 h2 os'
            · exact no
          · split
            · split
              · split
                · exact ih _ _ _ _ oc' (by omega) h1 h2 os'
                · split
                  · exact ih _ _ _ _ oc' (by omega) h1 h2 os'
                  · split
                    · exact ih _ _ _ _ oc' (by omega) h1 h2 os'
                    · exact no
              · exact no
            · rename_i q0 q1 q2
              have sT := sz_le (L := T) t0 t1
              have s34 : nd P p 0 = 3 ∨ nd P p 0 = 4 := o34 p p0 p1 q0 q1 q2
              have hh := hl s34
              have in1 : ∀ i : Nat, (i : Int) < sz T t → 0 ≤ t + (i : Int) ∧ t + (i : Int) < ln T := fun i hi => by omega
              split
              · refine wIn_or _ _ _ (fun i s2 _ i1 a1 a2 a3 => ih _ _ _ _ (fun x hx => ?_) (by simp only [wgt]; omega) a1 a2 a3) h1 h2 os'
                rcases List.mem_cons.mp hx with rfl | z
                · exact ⟨by simp only; omega, hh.1, (in1 i (by omega)).1, (in1 i (by omega)).2⟩
                · exact oc' x z
              · have I : wIn true (orL (fun o s => Wk P T FH AL false f [(p + 1, t + o)] true fill s) (sz T t).toNat 0 (s.1 + 1, s.2)) := by
                  refine wIn_or _ _ _ (fun i s2 _ i1 a1 a2 a3 => ih _ _ _ _ (fun x hx => ?_) (by simp only [wgt]; omega) a1 a2 a3) h1 h2 os'
                  rcases List.mem_cons.mp hx with rfl | z
                  · exact ⟨by simp only; omega, hh.1, (in1 i (by omega)).1, (in1 i (by omega)).2⟩
                  · cases z
                generalize orL (fun o s => Wk P T FH AL false f [(p + 1, t + o)] true fill s) (sz T t).toNat 0 (s.1 + 1, s.2) = R at *
                split
                · have m0 := I.2.1 rfl
                  have sp := I.2.2.2.2.2.1
                  refine ⟨fun z => ⟨?_, m0⟩, fun _ => m0, fun z _ => Or.inl (by simpa using z), I.2.2.2⟩
                  simp at z
                  show R.2.2.1 = 0
                  omega
                · rename_i cR
                  have cR : R.1 = false := by simpa using cR
                  exact ih _ _ _ _ oc' (by omega) (I.1 cR).1 (I.1 cR).2 I.2.2.2
end
section
variable {g : Gl} {D : Nat} {h0 : Hp} {E : Ev} {P T : NL} {pp : Int} {Q : Hp → Prop}
/-- what is owed for the outcome of a walk -/
noncomputable def PoM (g : Gl) (D : Nat) (Q : Hp → Prop) (h0 : Hp) (P T : NL) (pp : Int) (cs : List Cho) (R : Bool × St) : Prop := if R.1 = true then (if R.2.2.1 = 1 ∨ R.2.2.2.1 = 1 then Fin_ Q h0 R.2 else bk g D Q h0 P T pp (popB cs) R.2) else bk g D Q h0 P T pp cs R.2
theorem hasB_cons {cs : List Cho} {e : Cho} (h : hasB cs) : hasB (e :: cs) := by
  obtain ⟨x, hx, ex⟩ := h
  exact ⟨x, List.mem_cons_of_mem _ hx, ex⟩
theorem sim (H : MHs E P T pp h0) : ∀ (f : Nat) (c : List (Int × Int)) (inn : Bool) (fill : Fl) (cs : List Cho) (s : St), okc P T c → wgt P c ≤ f → s.2.1 = 0 → s.2.2.1 = 0 → okSt s → (inn = true → hasB cs) → PoM g (D + 3) Q h0 P T pp cs (Wk P T (fhG E P T) (alk T) false f c inn fill s) → MGo g (D + 3) Q h0 P T pp (c ++ mkI inn) fill cs s := by
  obtain ⟨a1, a2, a3, a4, a5, a6, a7, a8, a9, a10⟩ := id H
  have oP : ∀ p : Int, 0 ≤ p → p < ln P → ((nd P p 0 = 3 ∨ nd P p 0 = 4) → (nd P p 7).toNat = 1) ∧ (nd P p 7).toNat ≤ 4 := fun p p0 p1 => by
    have o7 := (a8 p p0 p1).p7 a1
    exact ⟨fun z => by rcases a8 p p0 p1 with o | o | o | o <;> omega, by omega⟩
  have hd : ∀ p t : Int, 0 ≤ p → p < ln P → 0 ≤ t → t < ln T → nd P p 0 = 0 → nd P p 1 = nd T t 1 → (nd P p 7).toNat = (nd T t 7).toNat := fun p t p0 p1 t0 t1 c2 he => by
    have ot := a4.1 t t0 t1
    rcases a8 p p0 p1 with o | o | o | o
    · rcases ot with u | u | u | u
      · rw [u.2.2.2.2.2.2.2.2.1, o.2.2.2.2.2.2.2.2.1, he]
      · omega
      · omega
      · omega
    · omega
    · omega
    · omega
  have o34 : ∀ p : Int, 0 ≤ p → p < ln P → ¬ nd P p 0 = 0 → ¬ nd P p 0 = 1 → ¬ nd P p 0 = 2 → nd P p 0 = 3 ∨ nd P p 0 = 4 := fun p p0 p1 x y z => by rcases a8 p p0 p1 with o | o | o | o <;> omega
  have WI := fun f c inn fill s => W_in (P := P) (T := T) (FH := fhG E P T) (AL := alk T) oP o34 a9 a5 hd f c inn fill s
  have nil : ∀ (f : Nat) (inn : Bool) (fill : Fl) (cs : List Cho) (s : St), s.2.1 = 0 → s.2.2.1 = 0 → (inn = true → hasB cs) → PoM g (D + 3) Q h0 P T pp cs (Wk P T (fhG E P T) (alk T) false f [] inn fill s) → MGo g (D + 3) Q h0 P T pp ([] ++ mkI inn) fill cs s := by
    intro f inn fill cs s h1 h2 hb K
    cases inn with
    | true =>
      rw [Wk_t] at K
      unfold PoM at K
      rw [if_pos rfl, if_neg (show ¬ (s.2.1 = 1 ∨ s.2.2.1 = 1) by omega)] at K
      exact go_mark H (hb rfl) K
    | false =>
      rw [Wk_f] at K
      refine go_nil H ?_
      unfold PoM at K
      by_cases c : (kpW fill s).2.2.1 = 1
      · rw [if_pos (by simp [c]), if_pos (Or.inr c)] at K
        unfold bk
        rw [if_pos (Or.inr c)]
        exact K
      · rw [if_neg (by simp [c])] at K
        exact K
  intro f
  induction f with
  | zero =>
    intro c inn fill cs s oc hw h1 h2 os hb K
    cases c with
    | nil => exact nil 0 inn fill cs s h1 h2 hb K
    | cons e c =>
      have := wgt_len oc
      simp only [List.length_cons] at this
      omega
  | succ f ih =>
    intro c inn fill cs s oc hw h1 h2 os hb K
    cases c with
    | nil => exact nil (f + 1) inn fill cs s h1 h2 hb K
    | cons e c =>
      obtain ⟨p, t⟩ := e
      obtain ⟨p0, p1, t0, t1⟩ := oc (p, t) List.mem_cons_self
      simp only at p0 p1 t0 t1
      have oc' : okc P T c := fun x hx => oc x (List.mem_cons_of_mem _ hx)
      have wl := wgt_len oc'
      have sp := sz_pos (L := P) p0 p1
      have sT := sz_le (L := T) t0 t1
      have pT := sz_pos (L := T) t0 t1
      simp only [wgt] at hw
      have os' : ¬ 2000 ≤ s.1 → okSt (s.1 + 1, s.2) := fun z => ⟨by have := os.1; simp; omega, by simp; omega, os.2.2.1, os.2.2.2.1, os.2.2.2.2⟩
      have kp := sz_kd (L := P) p0 p1
      have hl : (nd P p 0 = 3 ∨ nd P p 0 = 4) → p + 1 < ln P ∧ sz P p = 1 + sz P (p + 1) := fun z => by
        have pa := (oP p p0 p1).1 z
        rw [pa, kd_s p0, kd_0] at kp
        have := kd_lt a9 p0 p1 (j := 0) (by omega)
        rw [kd_0] at this
        exact ⟨this, by omega⟩
      have eW : Wk P T (fhG E P T) (alk T) false (f + 1) ((p, t) :: c) inn fill s = if 2000 ≤ s.1 then (true, (s.1, 1, s.2.2)) else Wn P T (fhG E P T) (alk T) (Wk P T (fhG E P T) (alk T) false f) p t c inn fill (s.1 + 1, s.2) := rfl
      rw [eW] at K
      have K' : ¬ 2000 ≤ s.1 → PoM g (D + 3) Q h0 P T pp cs (Wn P T (fhG E P T) (alk T) (Wk P T (fhG E P T) (alk T) false f) p t c inn fill (s.1 + 1, s.2)) := fun z => by rwa [if_neg z] at K
      have no : ∀ {s2 : St}, PoM g (D + 3) Q h0 P T pp cs (false, s2) → bk g (D + 3) Q h0 P T pp cs s2 := fun z => by
        unfold PoM at z
        rwa [if_neg (by simp)] at z
      refine go_all H h1 h2 p0 p1 t0 t1 (fun z => ?_) (fun z c2 => ⟨fun c3 => ?_, fun c3 => ?_⟩) (fun z c2 => ⟨fun c3 => ?_, fun c3 => ?_⟩) (fun z c2 => ⟨fun c3 => ?_, fun c3 c4 => ?_, fun c3 c4 c5 => ?_, fun c3 c4 c5 => ⟨fun c6 => ?_, fun c6 => ?_⟩⟩) (fun z c2 => ?_) (fun z c2 => ?_)
      · rw [if_pos z] at K
        unfold PoM at K
        rwa [if_pos rfl, if_pos (Or.inl rfl)] at K
      · have k := K' z
        rw [Wn_0 c2, if_neg c3] at k
        exact no k
      · have k := K' z
        rw [Wn_0 c2, if_pos c3] at k
        have nl : nO P p ≤ ocT.getD (nd P p 7).toNat 0 := by
          unfold nO
          split
          · exact Nat.le_refl _
          · exact (oc_p _ (oP p p0 p1).2).1
        have n1 : 1 ≤ nO P p := by
          unfold nO
          split
          · exact (oc_p _ (oP p p0 p1).2).1
          · decide
        have lp : ∀ (m i : Nat) (s2 : St), i + (m + 1) = nO P p → s2.2.1 = 0 → s2.2.2.1 = 0 → okSt s2 → PoM g (D + 3) Q h0 P T pp cs (orL (fun o s => Wk P T (fhG E P T) (alk T) false f (prt P T p t (nd P p 7).toNat o (nd P p 7).toNat 0 ++ c) inn fill s) (m + 1) i s2) → MGo g (D + 3) Q h0 P T pp (prt P T p t (nd P p 7).toNat i (nd P p 7).toNat 0 ++ (c ++ mkI inn)) fill (if i + 1 = nO P p then cs else (0, p, t, ((i + 1 : Nat) : Int), c ++ mkI inn, fill) :: cs) s2 := by
          intro m
          induction m with
          | zero =>
            intro i s2 hi b1 b2 b3 k2
            rw [if_pos (by omega), ← List.append_assoc]
            have wp := prt_wgt (T := T) (t := t) (n := (nd P p 7).toNat) (o := i) (P := P) p0 (nd P p 7).toNat 0
            rw [Nat.zero_add, kp, kd_0] at wp
            refine ih _ inn fill cs s2 (fun x hx => ?_) (by rw [wgt_app, wp]; omega) b1 b2 b3 hb ?_
            · rcases List.mem_append.mp hx with z | z
              · exact okc_prt a9 a5 p0 p1 t0 t1 rfl (hd p t p0 p1 t0 t1 c2 c3) (oP p p0 p1).2 (by omega) _ 0 (by omega) x z
              · exact oc' x z
            · unfold orL at k2
              unfold orL at k2
              try dsimp only at k2
              generalize Wk P T (fhG E P T) (alk T) false f (prt P T p t (nd P p 7).toNat i (nd P p 7).toNat 0 ++ c) inn fill s2 = R at *
              by_cases cR : R.1 = true
              · rw [if_pos cR] at k2
                unfold PoM at k2 ⊢
                rw [if_pos rfl] at k2
                rw [if_pos cR]
                exact k2
              · rw [if_neg cR] at k2
                unfold PoM at k2 ⊢
                rw [if_neg (by simp)] at k2
                rw [if_neg cR]
                exact k2
          | succ m ihm =>
            intro i s2 hi b1 b2 b3 k2
            rw [if_neg (by omega), ← List.append_assoc]
            have wp := prt_wgt (T := T) (t := t) (n := (nd P p 7).toNat) (o := i) (P := P) p0 (nd P p 7).toNat 0
            rw [Nat.zero_add, kp, kd_0] at wp
            have okk : okc P T (prt P T p t (nd P p 7).toNat i (nd P p 7).toNat 0 ++ c) := fun x hx => by
              rcases List.mem_append.mp hx with z | z
              · exact okc_prt a9 a5 p0 p1 t0 t1 rfl (hd p t p0 p1 t0 t1 c2 c3) (oP p p0 p1).2 (by omega) _ 0 (by omega) x z
              · exact oc' x z
            have ww : wgt P (prt P T p t (nd P p 7).toNat i (nd P p 7).toNat 0 ++ c) ≤ f := by rw [wgt_app, wp]; omega
            refine ih _ inn fill _ s2 okk ww b1 b2 b3 (fun z => hasB_cons (hb z)) ?_
            have I := WI f _ inn fill s2 okk ww b1 b2 b3
            unfold orL at k2
            try dsimp only at k2
            generalize Wk P T (fhG E P T) (alk T) false f (prt P T p t (nd P p 7).toNat i (nd P p 7).toNat 0 ++ c) inn fill s2 = R at *
            by_cases cR : R.1 = true
            · rw [if_pos cR] at k2
              unfold PoM at k2 ⊢
              rw [if_pos rfl] at k2
              rw [if_pos cR]
              have : popB ((0, p, t, ((i + 1 : Nat) : Int), c ++ mkI inn, fill) :: cs) = popB cs := by
                show (if (0 : Int) = 2 then cs else popB cs) = popB cs
                rw [if_neg (by decide)]
              rw [this]
              exact k2
            · rw [if_neg cR] at k2
              have cF : R.1 = false := by simpa using cR
              have i0 := I.1 cF
              have X := ihm (i + 1) R.2 (by omega) i0.1 i0.2 I.2.2.2 k2
              unfold PoM
              rw [if_neg cR]
              unfold bk
              rw [if_neg (by omega)]
              dsimp only
              rw [if_pos rfl, show (((i + 1 : Nat) : Int)).toNat = i + 1 by omega]
              by_cases ce : i + 1 + 1 = nO P p
              · rw [if_pos ce] at X
                rw [if_pos (by omega)]
                exact X
              · rw [if_neg ce] at X
                rw [if_neg (by omega), show ((i + 1 : Nat) : Int) + 1 = ((i + 1 + 1 : Nat) : Int) by omega]
                exact X
        have X := lp (nO P p - 1) 0 (s.1 + 1, s.2) (by omega) h1 h2 (os' z) (by rw [show nO P p - 1 + 1 = nO P p by omega]; exact k)
        by_cases ce : nO P p = 1
        · rw [if_pos (by omega)] at X
          rw [if_pos ce]
          exact X
        · rw [if_neg (by omega)] at X
          rw [if_neg ce]
          exact X
      · have k := K' z
        rw [Wn_1 c2, if_pos c3] at k
        exact ih c inn fill cs _ oc' (by omega) h1 h2 (os' z) hb k
      · have k := K' z
        rw [Wn_1 c2, if_neg c3] at k
        exact no k
      · have k := K' z
        rw [Wn_2 c2, if_neg c3] at k
        exact no k
      · have k := K' z
        rw [Wn_2 c2, if_pos c3, if_pos c4] at k
        exact ih c inn fill cs _ oc' (by omega) h1 h2 (os' z) hb k
      · have k := K' z
        rw [Wn_2 c2, if_pos c3, if_neg c4, if_pos c5] at k
        exact ih c inn _ cs _ oc' (by omega) h1 h2 (os' z) hb k
      · have k := K' z
        rw [Wn_2 c2, if_pos c3, if_neg c4, if_neg c5, if_pos c6] at k
        exact ih c inn fill cs _ oc' (by omega) h1 h2 (os' z) hb k
      · have k := K' z
        rw [Wn_2 c2, if_pos c3, if_neg c4, if_neg c5, if_neg c6] at k
        exact no k
      · have k := K' z
        rw [Wn_3 c2] at k
        have hh := hl (Or.inl c2)
        have lp : ∀ (m i : Nat) (s2 : St), i + (m + 1) = (sz T t).toNat → s2.2.1 = 0 → s2.2.2.1 = 0 → okSt s2 → PoM g (D + 3) Q h0 P T pp cs (orL (fun o s => Wk P T (fhG E P T) (alk T) false f ((p + 1, t + o) :: c) inn fill s) (m + 1) i s2) → MGo g (D + 3) Q h0 P T pp ((p + 1, t + (i : Int)) :: (c ++ mkI inn)) fill (if t + (i : Int) + 1 = t + sz T t then cs else (1, p + 1, t, t + (i : Int) + 1, c ++ mkI inn, fill) :: cs) s2 := by
          intro m
          induction m with
          | zero =>
            intro i s2 hi b1 b2 b3 k2
            rw [if_pos (by omega), ← List.cons_append]
            refine ih _ inn fill cs s2 (fun x hx => ?_) (by simp only [wgt]; omega) b1 b2 b3 hb ?_
            · rcases List.mem_cons.mp hx with rfl | z
              · exact ⟨by simp only; omega, hh.1, by simp only; omega, by simp only; omega⟩
              · exact oc' x z
            · unfold orL at k2
              unfold orL at k2
              try dsimp only at k2
              generalize Wk P T (fhG E P T) (alk T) false f ((p + 1, t + (i : Int)) :: c) inn fill s2 = R at *
              by_cases cR : R.1 = true
              · rw [if_pos cR] at k2
                unfold PoM at k2 ⊢
                rw [if_pos rfl] at k2
                rw [if_pos cR]
                exact k2
              · rw [if_neg cR] at k2
                unfold PoM at k2 ⊢
                rw [if_neg (by simp)] at k2
                rw [if_neg cR]
                exact k2
          | succ m ihm =>
            intro i s2 hi b1 b2 b3 k2
            rw [if_neg (by omega), ← List.cons_append]
            have okk : okc P T ((p + 1, t + (i : Int)) :: c) := fun x hx => by
              rcases List.mem_cons.mp hx with rfl | z
              · exact ⟨by simp only; omega, hh.1, by simp only; omega, by simp only; omega⟩
              · exact oc' x z
            have ww : wgt P ((p + 1, t + (i : Int)) :: c) ≤ f := by simp only [wgt]; omega
            refine ih _ inn fill _ s2 okk ww b1 b2 b3 (fun z => hasB_cons (hb z)) ?_
            have I := WI f _ inn fill s2 okk ww b1 b2 b3
            unfold orL at k2
            try dsimp only at k2
            generalize Wk P T (fhG E P T) (alk T) false f ((p + 1, t + (i : Int)) :: c) inn fill s2 = R at *
            by_cases cR : R.1 = true
            · rw [if_pos cR] at k2
              unfold PoM at k2 ⊢
              rw [if_pos rfl] at k2
              rw [if_pos cR]
              have : popB ((1, p + 1, t, t + (i : Int) + 1, c ++ mkI inn, fill) :: cs) = popB cs := by
                show (if (1 : Int) = 2 then cs else popB cs) = popB cs
                rw [if_neg (by decide)]
              rw [this]
              exact k2
            · rw [if_neg cR] at k2
              have cF : R.1 = false := by simpa using cR
              have i0 := I.1 cF
              have X := ihm (i + 1) R.2 (by omega) i0.1 i0.2 I.2.2.2 k2
              unfold PoM
              rw [if_neg cR]
              unfold bk
              rw [if_neg (by omega)]
              dsimp only
              rw [if_neg (by decide), if_pos rfl]
              rw [show t + ((i + 1 : Nat) : Int) = t + (i : Int) + 1 by omega] at X
              exact X
        have X := lp ((sz T t).toNat - 1) 0 (s.1 + 1, s.2) (by omega) h1 h2 (os' z) (by rw [show (sz T t).toNat - 1 + 1 = (sz T t).toNat by omega]; exact k)
        rw [show t + ((0 : Nat) : Int) = t by omega] at X
        by_cases ce : sz T t = 1
        · rw [if_pos (by omega)] at X
          rw [if_pos ce]
          exact X
        · rw [if_neg (by omega)] at X
          rw [if_neg ce]
          exact X
      · have k := K' z
        rw [Wn_4 c2] at k
        have hh := hl (Or.inr c2)
        have lp : ∀ (m i : Nat) (s2 : St), i + (m + 1) = (sz T t).toNat → s2.2.1 = 0 → s2.2.2.1 = 0 → okSt s2 → PoM g (D + 3) Q h0 P T pp cs (if (orL (fun o s => Wk P T (fhG E P T) (alk T) false f [(p + 1, t + o)] true fill s) (m + 1) i s2).1 = true then (decide ((orL (fun o s => Wk P T (fhG E P T) (alk T) false f [(p + 1, t + o)] true fill s) (m + 1) i s2).2.2.1 = 1), (orL (fun o s => Wk P T (fhG E P T) (alk T) false f [(p + 1, t + o)] true fill s) (m + 1) i s2).2) else Wk P T (fhG E P T) (alk T) false f c inn fill (orL (fun o s => Wk P T (fhG E P T) (alk T) false f [(p + 1, t + o)] true fill s) (m + 1) i s2).2) → MGo g (D + 3) Q h0 P T pp [(p + 1, t + (i : Int)), (-2, 0)] fill ((2, p + 1, t, t + (i : Int), c ++ mkI inn, fill) :: cs) s2 := by
          intro m
          induction m with
          | zero =>
            intro i s2 hi b1 b2 b3 k2
            have okk : okc P T [(p + 1, t + (i : Int))] := fun x hx => by
              rcases List.mem_cons.mp hx with rfl | z
              · exact ⟨by simp only; omega, hh.1, by simp only; omega, by simp only; omega⟩
              · cases z
            have ww : wgt P [(p + 1, t + (i : Int))] ≤ f := by simp only [wgt]; omega
            have I := WI f _ true fill s2 okk ww b1 b2 b3
            have Y := ih [(p + 1, t + (i : Int))] true fill ((2, p + 1, t, t + (i : Int), c ++ mkI inn, fill) :: cs) s2 okk ww b1 b2 b3 (fun _ => ⟨_, List.mem_cons_self, rfl⟩)
            refine Y ?_
            unfold orL at k2
            unfold orL at k2
            try dsimp only at k2
            generalize Wk P T (fhG E P T) (alk T) false f [(p + 1, t + (i : Int))] true fill s2 = R at *
            have m0 := I.2.1 rfl
            have os2 := I.2.2.2
            by_cases cR : R.1 = true
            · rw [if_pos cR, if_pos rfl] at k2
              unfold PoM
              rw [if_pos cR]
              by_cases cs1 : R.2.2.1 = 1
              · rw [if_pos (Or.inl cs1)]
                unfold PoM at k2
                rwa [if_pos (by simpa using cs1), if_pos (Or.inl cs1)] at k2
              · rw [if_neg (by omega)]
                show bk g (D + 3) Q h0 P T pp (if (2 : Int) = 2 then cs else popB cs) R.2
                rw [if_pos rfl]
                unfold PoM at k2
                rwa [if_neg (by simpa using cs1)] at k2
            · rw [if_neg cR, if_neg (by simp)] at k2
              have cF : R.1 = false := by simpa using cR
              have i0 := I.1 cF
              unfold PoM
              rw [if_neg cR]
              unfold bk
              rw [if_neg (by omega)]
              dsimp only
              rw [if_neg (by decide), if_neg (by decide), if_neg (by omega)]
              exact ih c inn fill cs R.2 oc' (by omega) i0.1 i0.2 os2 hb k2
          | succ m ihm =>
            intro i s2 hi b1 b2 b3 k2
            have okk : okc P T [(p + 1, t + (i : Int))] := fun x hx => by
              rcases List.mem_cons.mp hx with rfl | z
              · exact ⟨by simp only; omega, hh.1, by simp only; omega, by simp only; omega⟩
              · cases z
            have ww : wgt P [(p + 1, t + (i : Int))] ≤ f := by simp only [wgt]; omega
            have I := WI f _ true fill s2 okk ww b1 b2 b3
            have Y := ih [(p + 1, t + (i : Int))] true fill ((2, p + 1, t, t + (i : Int), c ++ mkI inn, fill) :: cs) s2 okk ww b1 b2 b3 (fun _ => ⟨_, List.mem_cons_self, rfl⟩)
            refine Y ?_
            unfold orL at k2
            try dsimp only at k2
            generalize Wk P T (fhG E P T) (alk T) false f [(p + 1, t + (i : Int))] true fill s2 = R at *
            have m0 := I.2.1 rfl
            have os2 := I.2.2.2
            by_cases cR : R.1 = true
            · rw [if_pos cR, if_pos rfl] at k2
              unfold PoM
              rw [if_pos cR]
              by_cases cs1 : R.2.2.1 = 1
              · rw [if_pos (Or.inl cs1)]
                unfold PoM at k2
                rwa [if_pos (by simpa using cs1), if_pos (Or.inl cs1)] at k2
              · rw [if_neg (by omega)]
                show bk g (D + 3) Q h0 P T pp (if (2 : Int) = 2 then cs else popB cs) R.2
                rw [if_pos rfl]
                unfold PoM at k2
                rwa [if_neg (by simpa using cs1)] at k2
            · rw [if_neg cR] at k2
              have cF : R.1 = false := by simpa using cR
              have i0 := I.1 cF
              have X := ihm (i + 1) R.2 (by omega) i0.1 i0.2 os2 k2
              unfold PoM
              rw [if_neg cR]
              unfold bk
              rw [if_neg (by omega)]
              dsimp only
              rw [if_neg (by decide), if_neg (by decide), if_pos (by omega), show t + (i : Int) + 1 = t + ((i + 1 : Nat) : Int) by omega]
              exact X
        have X := lp ((sz T t).toNat - 1) 0 (s.1 + 1, s.2) (by omega) h1 h2 (os' z) (by rw [show (sz T t).toNat - 1 + 1 = (sz T t).toNat by omega]; exact k)
        rw [show t + ((0 : Nat) : Int) = t by omega] at X
        exact X
end
