/-! MATCHING, the class: walk, run -/
section
variable {g : Gl} {E : Ev} {P T : NL} {h0 : Hp} {pn w : Int} {fo : Bool} {f d : Nat} {c : List (Int × Int)} {inn : Bool} {fill : Fl} {s : St} {l q p t : Int} {h : Hp} {Q : Int → Hp → Prop}
theorem okFl_up (of : okFl T fill) {nm : Int} (t0 : 0 ≤ t) (t1 : t < ln T) : okFl T (fup fill nm t) := fun k k0 k1 => by
  by_cases c : k = nm
  · subst c
    rw [fup_at]
    exact Or.inr ⟨t0, t1⟩
  · rw [fup_ne c]
    exact of k k0 k1
theorem c_hole (W : WBs g E P T h0 pn w) (ih : cW g E P T h0 pn w fo f) (S : WS h0 pn w fo q fill s h) (hl : lst h q ((p, t) :: c) inn l) (oc : okc P T ((p, t) :: c)) (hw : wgt P ((p, t) :: c) ≤ ((f + 1 : Nat) : Int)) (q0 : 0 ≤ q) (q24 : q ≤ 24) (qc : q + wgt P ((p, t) :: c) - (((p, t) :: c).length : Nat) ≤ 24) (os : okSt s) (of : okFl T fill) (f4 : f + 1 ≤ 24) (s2 : nd P p 0 = 2) (k : wPo h0 pn w fo q fill h Q (Wn P T (fhG E P T) (alk T) (Wk P T (fhG E P T) (alk T) fo f) p t c inn fill s)) : Good g (d + 3 * f + 8) i3_walkHole [LR 3 598, LI l, LI (25 - ((f + 1 : Nat) : Int))] S0 h S0 (retI Q) := by
  obtain ⟨b1, b2, b3, b4, b5, b6, b7, b8, b9, b10, b11, b12, b13, b14, b15⟩ := id W
  obtain ⟨l0, l1, e6, e7, hl2⟩ := id hl
  obtain ⟨p0, p1, t0, t1⟩ := oc (p, t) List.mem_cons_self
  simp only at p0 p1 t0 t1 e6 e7
  have oc' : okc P T c := fun x hx => oc x (List.mem_cons_of_mem _ hx)
  have wl := wgt_len oc'
  have lT := b4.2.2.1
  have op := b6 p p0 p1
  have H := W.at S
  have sp := sz_pos (L := P) p0 p1
  simp only [wgt, List.length_cons] at hw qc
  have b9' := b9.1
  have e4 : h (pn + 4) p = nd P p 3 := (H.2.2.1.2 p p0 p1).2.2.2.1
  rw [Wn_2 s2] at k
  refine g3_walkHole (d := d + 3 * f + 7) (fun _ _ => v3_walkHole ⟨l0, by omega, ?_⟩)
  rw [e6, e7, S.2.1]
  have go : ∀ {fl2 : Fl} {h2 : Hp} {Q' : Int → Hp → Prop}, WS h0 pn w fo q fl2 s h2 → chS h h2 q → okFl T fl2 → (∀ h' : Hp, WS h0 pn w fo q fl2 (Wk P T (fhG E P T) (alk T) fo f c inn fl2 s).2 h' → chS h2 h' q → Q' (cb ((Wk P T (fhG E P T) (alk T) fo f c inn fl2 s).1 = true)) h') → Good g (d + 3 * f + 7) i3_walk [LR 3 598, LI (h2 602 l), LI (w32 (25 - ((f + 1 : Nat) : Int) + 1))] S0 h2 S0 (retI Q') := by
    intro fl2 h2 Q' S2 C2 of2 k2
    have hl2' : lst h2 q ((p, t) :: c) inn l := hl.to (by omega) (fun i i0 i1 => C2 i i0 i1)
    rw [w32_id (by omega) (by omega), show (25 : Int) - ((f + 1 : Nat) : Int) + 1 = 25 - (f : Int) by omega, show d + 3 * f + 7 = (d + 1) + 3 * f + 6 by omega]
    exact ih c inn fl2 s _ q h2 (d + 1) _ S2 hl2'.2.2.2.2 oc' (by omega) q0 q24 (by omega) os of2 (by omega) k2
  refine f_fitsHole (d := d + 3 * f + 4) b1 H.1 NDs.tree H.2.1.1 lT b9 H.2.2.1 b8 t0 t1 p0 p1 (b4.1 t t0 t1) (by rcases op with o | o | o | o <;> omega) ?_
  rw [cb_c (fhG_in p0 p1 t0 t1), S.2.1, e4, b9.2.2.2.2.1]
  refine bn (fun cf => ?_) (fun cf => ?_)
  · rw [if_pos cf] at k
    refine ⟨by omega, by omega, p0, by omega, fun c1 => ?_, fun c1 => ⟨fun c2 => ⟨by omega, c2, fun c3 h11 k11 => ?_, fun c3 => ?_⟩, fun c2 => ?_⟩⟩
    · rw [if_pos c1] at k
      exact go S (chS.rf h q) of (fun h' S' C' => ⟨cb_01 _, k h' S' C'⟩)
    · rw [S.2.2.2.2.2.1 _ (by omega) c2] at c3
      rw [if_neg c1, if_pos c3] at k
      have S11 := S.fl b13.1 k11
      have C11 : chS h h11 q := fun i _ _ => ⟨by rw [k11, hup_ne (by decide)], by rw [k11, hup_ne (by decide)], by rw [k11, hup_ne (by decide)]⟩
      refine go S11 C11 (okFl_up of t0 t1) (fun h' S' C' h15 k15 => ⟨cb_01 _, k h15 ?_ ?_⟩)
      · have := S'.fl b13.1 k15
        rw [fup_fup] at this
        have e : fup fill (nd P p 3) (-1) = fill := by
          funext j
          by_cases z : j = nd P p 3
          · subst z
            rw [fup_at, c3]
          · rw [fup_ne z]
        rwa [e] at this
      · refine C11.tr ?_ (show q ≤ q by omega)
        intro i i0 i1
        have := C' i i0 i1
        exact ⟨by rw [k15, hup_ne (by decide)]; exact this.1, by rw [k15, hup_ne (by decide)]; exact this.2.1, by rw [k15, hup_ne (by decide)]; exact this.2.2⟩
    · have ef := S.2.2.2.2.2.1 _ (show 0 ≤ nd P p 3 by omega) c2
      rw [ef] at c3 ⊢
      rw [if_neg c1, if_neg c3] at k
      have o3 := of _ (show 0 ≤ nd P p 3 by omega) c2
      refine f_areAlike (d := d + 3 * f + 5) NDs.tree H.2.1.1 H.2.1.2.1 lT (by decide) (by omega) (by omega) t0 t1 (bz (fun ca => ?_) (fun ca => ?_))
      · rw [if_neg ca] at k
        have := k h S (chS.rf h q)
        rwa [cb_f (by simp)] at this
      · rw [if_pos ca] at k
        refine go S (chS.rf h q) of (fun h' S' C' => ?_)
        have := k h' S' C'
        exact bz (fun z => by rwa [cb_f z] at this) (fun z => by rwa [cb_t z] at this)
    · rcases op with o | o | o | o <;> omega
  · rw [if_neg cf] at k
    have := k h S (chS.rf h q)
    rwa [cb_f (by simp)] at this
theorem c_walk0 (W : WBs g E P T h0 pn w) : cW g E P T h0 pn w fo 0 := by
  obtain ⟨b1, b2, b3, b4, b5, b6, b7, b8, b9, b10, b11, b12, b13, b14, b15⟩ := id W
  intro c inn fill s l q h d Q S hl oc hw q0 q24 qc os of f4 k
  cases c with
  | nil =>
    have hl : l = if inn = true then -2 else -1 := hl
    refine g3_walk (d := d + 5) (fun _ _ => v3_walk ⟨fun z => absurd z (by rw [hl]; split <;> decide), fun _ => ⟨fun z => ?_, fun z => ?_⟩⟩)
    · have i1 : inn = true := Classical.byContradiction (fun y => by rw [if_neg y] at hl; omega)
      subst i1
      rw [Wk_t] at k
      have := k h S (chS.rf h q)
      rwa [cb_t rfl] at this
    · have i1 : inn = false := by cases inn with
        | false => rfl
        | true => rw [if_pos rfl] at hl; exact absurd hl z
      subst i1
      rw [Wk_f] at k
      refine f_keepFilling b13 b14 S os (fun h' S' C' => ?_)
      have := k h' S' C'
      exact bz (fun c => by rwa [cb_f c] at this) (fun c => by rwa [cb_t c] at this)
  | cons e c =>
    have := wgt_len oc
    simp only [List.length_cons] at this
    omega
theorem c_walk (W : WBs g E P T h0 pn w) : ∀ f : Nat, cW g E P T h0 pn w fo f := by
  obtain ⟨b1, b2, b3, b4, b5, b6, b7, b8, b9, b10, b11, b12, b13, b14, b15⟩ := id W
  intro f
  induction f with
  | zero => exact c_walk0 W
  | succ f ih =>
    intro c inn fill s l q h d Q S hl oc hw q0 q24 qc os of f4 k
    cases c with
    | nil =>
      have hl : l = if inn = true then -2 else -1 := hl
      refine g3_walk (d := d + 3 * f + 8) (fun _ _ => v3_walk ⟨fun z => absurd z (by rw [hl]; split <;> decide), fun _ => ⟨fun z => ?_, fun z => ?_⟩⟩)
      · have i1 : inn = true := Classical.byContradiction (fun y => by rw [if_neg y] at hl; omega)
        subst i1
        rw [Wk_t] at k
        have := k h S (chS.rf h q)
        rwa [cb_t rfl] at this
      · have i1 : inn = false := by cases inn with
          | false => rfl
          | true => rw [if_pos rfl] at hl; exact absurd hl z
        subst i1
        rw [Wk_f] at k
        refine f_keepFilling (d := d + 3 * f + 4) b13 b14 S os (fun h' S' C' => ?_)
        have := k h' S' C'
        exact bz (fun c => by rwa [cb_f c] at this) (fun c => by rwa [cb_t c] at this)
    | cons e c =>
      obtain ⟨p, t⟩ := e
      obtain ⟨l0, l1, e6, e7, hl2⟩ := id hl
      obtain ⟨p0, p1, t0, t1⟩ := oc (p, t) List.mem_cons_self
      simp only at p0 p1 t0 t1 e6 e7
      have oc' : okc P T c := fun x hx => oc x (List.mem_cons_of_mem _ hx)
      have wl := wgt_len oc'
      have lT := b4.2.2.1
      have op := b6 p p0 p1
      have sp := sz_pos (L := P) p0 p1
      have hw1 := hw
      have qc1 := qc
      simp only [wgt, List.length_cons] at hw1 qc1
      refine g3_walk (d := d + 3 * f + 8) (fun _ _ => v3_walk ⟨fun _ => ⟨fun z => absurd z (by omega), fun _ => ?_⟩, fun z => absurd l0 z⟩)
      unfold Wk at k
      refine f_mayTry b13 S os (fun c1 h3 S3 C3 => ⟨fun z => absurd z (by decide), fun _ => ⟨by omega, ?_⟩⟩) (fun c1 h3 S3 C3 => ⟨fun _ => ?_, fun z => absurd rfl z⟩)
      rotate_left
      · rw [if_pos c1] at k
        have := k h3 S3 C3
        rwa [cb_t rfl] at this
      rw [if_neg c1] at k
      have H3 := W.at S3
      have os3 : okSt (s.1 + 1, s.2) := ⟨by have := os.1; simp; omega, by simp; omega, os.2.2.1, os.2.2.2.1, os.2.2.2.2⟩
      have hl3 : lst h3 q ((p, t) :: c) inn l := hl.to (by omega) (fun i i0 i1 => C3 i i0 i1)
      obtain ⟨_, _, e63, e73, hl23⟩ := id hl3
      simp only at e63 e73
      rw [e73]
      refine f_has (L := T) (by decide) H3.2.1.1.1 (bn (fun _ => ?_) (fun z => absurd ⟨t0, t1⟩ z))
      rw [S3.2.1, e63, e73, b9.2.1, b9.2.2.1, b9.2.2.2.2.2.2.1, (H3.2.2.1.2 p p0 p1).1, (H3.2.2.1.2 p p0 p1).2.1, (H3.2.2.1.2 p p0 p1).2.2.2.2.2.1]
      have b9' := b9.1
      have k3 : wPo h0 pn w fo q fill h3 Q (Wn P T (fhG E P T) (alk T) (Wk P T (fhG E P T) (alk T) fo f) p t c inn fill (s.1 + 1, s.2)) := fun h' S' C' => k h' S' (C3.tr C' (by omega))
      refine ⟨by omega, by omega, p0, by omega, fun c2 => ?_, fun c2 => ⟨by omega, by omega, t0, by omega, ?_⟩, fun c2 => ⟨by omega, by omega, ?_⟩, fun c2 => ?_, fun c2 => ?_⟩
      · have s4 : nd P p 0 = 4 := by rcases op with o | o | o | o <;> omega
        exact c_nowhere W ih S3 hl3 oc hw q0 q24 qc os3 of f4 s4 (fun h' S' C' => ⟨cb_01 _, k3 h' S' C'⟩)
      · have e16 : h3 16 t = nd T t 1 := (H3.2.1.1.2 t t0 t1).2.1
        rw [e16]
        refine ⟨fun c3 => ?_, fun c3 => ?_⟩
        · rw [Wn_0 c2, if_neg c3] at k3
          have := k3 h3 S3 (chS.rf h3 q)
          rwa [cb_f (by simp)] at this
        · exact c_parts W ih S3 hl3 oc hw q0 q24 qc os3 of f4 c2 c3 (fun h' S' C' => bz (fun z => by have := k3 h' S' C'; rwa [cb_f z] at this) (fun z => by have := k3 h' S' C'; rwa [cb_t z] at this))
      · rw [Wn_1 c2] at k3
        refine g3_isNumber (d := d + 3 * f + 7) (fun _ _ => v3_isNumber ⟨t0, by omega, ?_⟩)
        have e15 : h3 15 t = nd T t 0 := (H3.2.1.1.2 t t0 t1).1
        have e20 : h3 20 t = nd T t 5 := (H3.2.1.1.2 t t0 t1).2.2.2.2.2.1
        rw [e15, e20]
        have no : ¬ (nd T t 0 = 1 ∧ nd T t 5 = nd P p 5) → Q 0 h3 := fun z => by
          rw [if_neg z] at k3
          have := k3 h3 S3 (chS.rf h3 q)
          rwa [cb_f (by simp)] at this
        refine ⟨fun c3 => ⟨fun _ => no (fun z => c3 z.1), fun z => absurd rfl z⟩, fun c3 => ⟨fun c4 => ⟨fun _ => no (fun z => c4 (lc_eq.mpr z.2)), fun z => absurd rfl z⟩, fun c4 => ⟨fun z => absurd z (by decide), fun _ => ?_⟩⟩⟩
        rw [if_pos ⟨c3, lc_eq.mp c4⟩] at k3
        rw [w32_id (by omega) (by omega), show (25 : Int) - ((f + 1 : Nat) : Int) + 1 = 25 - (f : Int) by omega, show d + 3 * f + 8 = (d + 2) + 3 * f + 6 by omega]
        exact ih c inn fill (s.1 + 1, s.2) _ q h3 (d + 2) _ S3 hl23 oc' (by omega) q0 q24 (by omega) os3 of (by omega) (fun h' S' C' => bz (fun z => by have := k3 h' S' C'; rwa [cb_f z] at this) (fun z => by have := k3 h' S' C'; rwa [cb_t z] at this))
      · exact c_hole W ih S3 hl3 oc hw q0 q24 qc os3 of f4 c2 (fun h' S' C' => ⟨cb_01 _, k3 h' S' C'⟩)
      · exact c_below W ih S3 hl3 oc hw q0 q24 qc os3 of f4 c2 (fun h' S' C' => ⟨cb_01 _, k3 h' S' C'⟩)
/-- all fillings of P at the node t -/
noncomputable def run (E : Ev) (P T : NL) (fo : Bool) (t : Int) : St := (Wk P T (fhG E P T) (alk T) fo 24 [(0, t)] false (fun _ => -1) (0, 0, 0, [])).2
theorem f_run {b t w : Int} {Q : Hp → Prop} (eb : pn = b + 1) (hb : 4 ≤ b) (W : WBs g E P T h pn w) (t0 : 0 ≤ t) (t1 : t < ln T) (k : ∀ h' : Hp, (∀ a : Int, ¬ (598 ≤ a ∧ a ≤ 602) → a ≠ w → a ≠ w + 1 → h' a = h a) → cAn w (run E P T fo t) h' → Q h') : Good g (d + 80) i3_run [LR 3 598, LR 6 b, LI t, LR 0 w, LI (cb (fo = true))] S0 h S0 (retV Q) := by
  obtain ⟨b1, b2, b3, b4, b5, b6, b7, b8, b9, b10, b11, b12, b13, b14, b15⟩ := id W
  refine g3_run (fun _ _ _ _ => v3_run (by omega) (by omega) (fun h1 k1 h2 k2 => ⟨cb_01 _, fun h3 k3 => ?_⟩))
  have e8 : h3 598 8 = w := by rw [k3, hup_nj (by decide), k2, hup_at]
  rw [e8]
  refine ⟨by omega, g0_clear (fun _ => v0_clear b13.2 (fun h4 k4 h5 k5 h6 k6 h7 k7 h8 k8 => ?_))⟩
  have base : ∀ a : Int, ¬ (598 ≤ a ∧ a ≤ 602) → a ≠ w → h8 a = h a := fun a c1 c2 => by rw [k8, hup_r (by omega), k7, hup_r c2, k6, hup_r c2, k5, hup_r c2, k4, hup_r c2, k3, hup_r (by omega), k2, hup_r (by omega), k1, hup_r (by omega)]
  have f7 : h8 598 7 = pn := by rw [k8, hup_nj (by decide), k7, hup_ne (by omega), k6, hup_ne (by omega), k5, hup_ne (by omega), k4, hup_ne (by omega), k3, hup_nj (by decide), k2, hup_nj (by decide), k1, hup_at, eb]
  have f8 : h8 598 8 = w := by rw [k8, hup_nj (by decide), k7, hup_ne (by omega), k6, hup_ne (by omega), k5, hup_ne (by omega), k4, hup_ne (by omega), e8]
  have f9 : h8 598 9 = cb (fo = true) := by rw [k8, hup_nj (by decide), k7, hup_ne (by omega), k6, hup_ne (by omega), k5, hup_ne (by omega), k4, hup_ne (by omega), k3, hup_at]
  have f6 : h8 598 6 = 0 := by rw [k8, hup_at]
  have A8 : cAn w (0, 0, 0, []) h8 := by
    refine ⟨?_, ?_, ?_, ?_, fun i hi => absurd hi (by simp)⟩
    · rw [k8, hup_ne (by omega), k7, hup_nj (by decide), k6, hup_nj (by decide), k5, hup_nj (by decide), k4, hup_at]; rfl
    · rw [k8, hup_ne (by omega), k7, hup_nj (by decide), k6, hup_nj (by decide), k5, hup_at]
    · rw [k8, hup_ne (by omega), k7, hup_nj (by decide), k6, hup_at]
    · rw [k8, hup_ne (by omega), k7, hup_at]
  have lp : ∀ (m : Nat) (y : Int) (h9 : Hp), 0 ≤ y → y + m = 10 → (∀ a : Int, a ≠ 599 → h9 a = h8 a) → (∀ j : Int, 0 ≤ j → j < y → h9 599 j = -1) → L0 g (d + 79) m3_run (retV Q) 34 [some (LR 3 598), none, some (LI t), none, none, some (LI y)] h9 := by
    intro m
    induction m with
    | zero =>
      intro y h9 y0 hy F9 R9
      refine v3_run_34 ⟨fun _ => ?_, fun z => absurd (by omega) z⟩
      have S9 : WS h pn w fo 0 (fun _ => -1) (0, 0, 0, []) h9 := ⟨fun a c1 c2 c3 => by rw [F9 a (by omega)]; exact base a c1 c2, by rw [F9 598 (by decide)]; exact f7, by rw [F9 598 (by decide)]; exact f8, by rw [F9 598 (by decide)]; exact f9, by rw [F9 598 (by decide)]; exact f6, fun j j0 j1 => R9 j j0 (by omega), A8.to (F9 w (by omega)) (F9 (w + 1) (by omega))⟩
      refine f_chain b13 S9 (by decide) (by decide) (fun h10 S10 C10 x1 x2 x3 => ?_)
      have l0 : 0 < ln P := by
        have := wf_tl b7
        have := sz_all b7
        unfold ln
        cases P with
        | nil => exact absurd (show (1 : Nat) = 0 from b7) (by decide)
        | cons _ _ => simp
      have sa := sz_all b7
      have X := c_walk (fo := fo) W 24 [(0, t)] false (fun _ => -1) (0, 0, 0, []) 0 1 h10 (d + 1) (fun r7 h5 => Q h5) S10 ⟨by decide, by decide, x1, x2, x3⟩ (fun x hx => by rcases List.mem_cons.mp hx with rfl | z; exact ⟨Int.le_refl _, l0, t0, t1⟩; cases z) (by simp only [wgt, sa]; omega) (by decide) (by decide) (by simp only [wgt, sa, List.length_cons, List.length_nil]; omega) ⟨by decide, by decide, Or.inl rfl, Or.inl rfl, by decide⟩ (fun _ _ _ => Or.inl rfl) (by decide) (fun h' S' _ => k h' S'.1 S'.2.2.2.2.2.2)
      exact X
    | succ m ih =>
      intro y h9 y0 hy F9 R9
      refine v3_run_34 ⟨fun z => absurd z (by omega), fun _ => ⟨y0, by omega, fun h10 k10 => ?_⟩⟩
      rw [w32_id (by omega) (by omega)]
      refine ih (y + 1) h10 (by omega) (by omega) (fun a ha => by rw [k10, hup_r ha]; exact F9 a ha) (fun j j0 j1 => ?_)
      by_cases cj : j = y
      · subst cj
        rw [k10, hup_at]
      · rw [k10, hup_nj cj]
        exact R9 j j0 (by omega)
  exact lp 10 0 h8 (by decide) (by decide) (fun _ _ => rfl) (fun j j0 j1 => by omega)
end
