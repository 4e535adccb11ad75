/-! THE NET: looks, parts -/
theorem gw_b {E : Ev} {P T : NL} : ∀ (m : Nat) (k t c : Int) (pa : Fl), k ≤ (gw E P T m k t c pa).1 ∧ (gw E P T m k t c pa).1 ≤ k + m
  | 0, k, t, c, pa => ⟨Int.le_refl _, by simp [gw]⟩
  | m + 1, k, t, c, pa => by
    have a := gw_b (E := E) (P := P) (T := T) m (k + 1) (t + 1) c pa
    have b := gw_b (E := E) (P := P) (T := T) m (k + 1) (t + sz T t) (c + 1) (fup pa c t)
    have e := gw_b (E := E) (P := P) (T := T) m (k + 1) (t + sz T t) c pa
    unfold gw
    split
    · split
      · omega
      · split <;> omega
    · exact ⟨Int.le_refl _, by show k ≤ k + ((m + 1 : Nat) : Int); omega⟩
theorem gw0_b {E : Ev} {P T : NL} : 0 ≤ (gw0 E P T).1 ∧ (gw0 E P T).1 ≤ ln P := by
  have := gw_b (E := E) (P := P) (T := T) (ln P).toNat 0 0 0 (fun _ => 0)
  have : 0 ≤ ln P := by unfold ln; omega
  unfold gw0
  omega
noncomputable def lkO (E : Ev) (P : Ps) (T : NL) (u p : Int) : Int := max (min ((gw0 E (P p).2.2 T).1 + 1) (ln (P p).2.2) - (if u = 0 then 0 else ots P p p.toNat)) 0
theorem lkO_b {E : Ev} {P : Ps} {T : NL} {u p : Int} (l : ln (P p).2.2 ≤ 24) : 0 ≤ lkO E P T u p ∧ lkO E P T u p ≤ 24 := by
  have := gw0_b (E := E) (P := (P p).2.2) (T := T)
  have := ots_b (P := P) (p := p) p.toNat
  unfold lkO
  split <;> omega
noncomputable def lksV (E : Ev) (P : Ps) (T : NL) (w : Int) : Int := if ¬ (0 ≤ w ∧ w ≤ 1) then -1002 else if ln T = 0 then -1003 else nsum P (lkO E P T (if w = 0 then 1 else 0)) 40
noncomputable def ptsV (E : Ev) (P : Ps) (T : NL) (x w : Int) : Int := if ¬ (0 ≤ x ∧ x < 40 ∧ (P x).1 = 1) then -1001 else if ¬ (0 ≤ w ∧ w ≤ 1) then -1002 else @ite _ (¬ inN P x ∨ ln T = 0) (Classical.propDecidable _) (-1003) (if ln (P x).2.2 ≤ (gw0 E (P x).2.2 T).1 then -1 else if w = 0 then (gw0 E (P x).2.2 T).1 else (gw0 E (P x).2.2 T).2)
theorem okT.w0 {E : Ev} {T : NL} (o : okT E T) (n : ¬ ln T = 0) : wf T 1 := by
  have : 0 ≤ ln T := by unfold ln; omega
  exact o.w (Int.le_refl 0) (by omega)
section
variable {g : Gl} {d : Nat} {h : Hp} {E : Ev} {T : NL} {P : Ps} {Q : Int → Hp → Prop}
theorem inN_2 (op : okP E P) {p : Int} (p0 : 0 ≤ p) (p1 : p < 40) (c : inN P p) (i : Int) (i0 : 0 ≤ i) (i1 : i < ln (P p).2.2) : nd (P p).2.2 i 0 = 0 ∨ nd (P p).2.2 i 0 = 1 ∨ nd (P p).2.2 i 0 = 2 := by
  have := inN_s c i0 i1
  have o := ((op p p0 p1).2.2 c.1).1 i i0 i1
  rcases o with o | o | o | o <;> omega
theorem x_marksGo (H : cA E T P h) (wT : wf T 1) {p : Int} (p0 : 0 ≤ p) (p1 : p < 40) (c : inN P p) (q : ∀ h' : Hp, (∀ a : Int, a ≠ 605 → a ≠ 606 → h' a = h a) → ((gw0 E (P p).2.2 T).1 < ln (P p).2.2 → h' 605 4 = (gw0 E (P p).2.2 T).2) → Q (gw0 E (P p).2.2 T).1 h') : Good g (d + 5) i4_marksThatGo [LR 4 605, LR 6 (35 + 14 * p)] S0 h S0 (retI Q) := by
  obtain ⟨a1, a2, a3, a4, a5, a6, a7⟩ := id H
  have o := (a5 p p0 p1).2.2 c.1
  exact f_marksGo a1 a2 a3 wT a4 p0 p1 ((a6 p p0 p1).2.2 c.1).2 o.1 o.2.1 (a5 p p0 p1).2.1 (inN_2 a5 p0 p1 c) q
theorem y_goes (H : mA E T P h) (wT : wf T 1) {p : Int} (p0 : 0 ≤ p) (p1 : p < 40) (c : inN P p) (q : ∀ h' : Hp, mFrG h h' → ((gw0 E (P p).2.2 T).1 < ln (P p).2.2 → h' 608 73 = (gw0 E (P p).2.2 T).2) → Q (gw0 E (P p).2.2 T).1 h') : Good g (d + 3) i10_goesWith [LR 10 608, LI p] S0 h S0 (retI Q) := by
  obtain ⟨a1, a2, a3, a4, a5, a6⟩ := id H
  have o := (a5 p p0 p1).2.2 c.1
  exact m_goesWith a1 a2 a3 wT a4.1 p0 p1 ((a6 p p0 p1).2 c.1).2 o.1 o.2.1 (a5 p p0 p1).2.1 (inN_2 a5 p0 p1 c) q
theorem cA.fg (H : cA E T P h) {h' : Hp} (F : ∀ a : Int, a ≠ 605 → a ≠ 606 → h' a = h a) : cA E T P h' := H.to (fun a ha => F a (by omega) (by omega)) (fun p a p0 p1 b0 b1 => F a (by omega) (by omega))
theorem mA.fg (H : mA E T P h) {h' : Hp} (F : mFrG h h') : mA E T P h' := H.to (fun a b0 b1 => F.1 a (by omega) (by omega)) (F.2 0 (by decide)) (F.2 2 (by decide)) (F.2 42 (by decide))
theorem f_looks (H : cA E T P h) (wT : wf T 1) {u : Int} (q : ∀ h' : Hp, (∀ a : Int, a ≠ 605 → a ≠ 606 → h' a = h a) → Q (nsum P (lkO E P T u) 40) h') : Good g (d + 6) i4_looksAtTree [LR 4 605, LI u] S0 h S0 (retI Q) := by
  have lp : ∀ (m y : Nat) (h2 : Hp), y + m = 40 → (∀ a : Int, a ≠ 605 → a ≠ 606 → h2 a = h a) → L0 g (d + 5) m4_looksAtTree (retI Q) 4 [some (LR 4 605), some (LI u), some (LI (nsum P (lkO E P T u) y)), some (LI y), none, none] h2 := by
    intro m
    induction m with
    | zero =>
      intro y h2 hy F
      refine v4_looksAtTree_4 ⟨fun _ => ?_, fun z => absurd (by omega) z⟩
      rw [show y = 40 by omega]
      exact q h2 F
    | succ m ih =>
      intro y h2 hy F
      have H2 := H.fg F
      obtain ⟨a1, a2, a3, a4, a5, a6, a7⟩ := id H2
      have b := nsum_b (P := P) (f := lkO E P T u) y (fun p p0 p1 _ => lkO_b (a5 p p0 (by omega)).2.1)
      have l := ln_b (p := y) a5 (by omega) (by omega)
      have ob := ots_b (P := P) (p := y) y
      have X : ∀ h3 : Hp, (∀ a : Int, a ≠ 605 → a ≠ 606 → h3 a = h a) → _ := fun h3 F3 => ih (y + 1) h3 (by omega) F3
      rw [nsum_s] at X
      refine v4_looksAtTree_4 ⟨fun z => absurd z (by omega), fun _ => ⟨by omega, by omega, x_isInNet (E := E) (d := d + 4) a5 a6 (by omega) (by omega) (bz (fun c => ?_) (fun c => ?_))⟩⟩
      · rw [if_neg c, Int.add_zero] at X
        rw [w32_id (by omega) (by omega)]
        exact X h2 F
      · rw [if_pos c] at X
        refine x_marksGo H2 wT (by omega) (by omega) c (fun h3 F3 _ => ?_)
        have F4 : ∀ a : Int, a ≠ 605 → a ≠ 606 → h3 a = h a := fun a x1 x2 => by rw [F3 a x1 x2]; exact F a x1 x2
        have H3 := H.fg F4
        have gb := gw0_b (E := E) (P := (P y).2.2) (T := T)
        replace X := X h3 F4
        unfold lkO at X
        rw [show ((y : Nat) : Int).toNat = y by omega] at X
        rw [(H3.2.2.2.2.2.1 y (by omega) (by omega)).2.1.1]
        rw [w32_id (x := (gw0 E (P y).2.2 T).1 + 1) (by omega) (by omega)]
        refine ⟨by omega, fun z => ?_, fun z => f_others (d := d + 2) H3.2.2.2.2.1 H3.2.2.2.2.2.1 (by omega) c.1 ?_⟩
        · rw [if_pos z] at X
          rw [w32_id (x := min ((gw0 E (P y).2.2 T).1 + 1) (ln (P y).2.2) - 0) (by omega) (by omega), w32_id (by omega) (by omega), w32_id (by omega) (by omega)]
          exact X
        · rw [if_neg z] at X
          rw [w32_id (x := min ((gw0 E (P y).2.2 T).1 + 1) (ln (P y).2.2) - ots P y y) (by omega) (by omega), w32_id (by omega) (by omega), w32_id (by omega) (by omega)]
          exact X
  exact g4_looksAtTree (fun _ => v4_looksAtTree (lp 40 0 h rfl (fun _ _ _ => rfl)))
theorem x_looks (H : cA E T P h) {w : Int} (q : ∀ h' : Hp, (∀ a : Int, a ≠ 605 → a ≠ 606 → h' a = h a) → Q (lksV E P T w) h') : Good g (d + 7) i9_looks [LR 9 4, LI w] S0 h S0 (retI Q) := by
  unfold lksV at q
  refine g9_looks (fun _ => v9_looks ?_)
  rw [H.2.2.2.1.1.1]
  refine ⟨fun z => ?_, fun z => ⟨fun z2 => ⟨fun c => ?_, fun c => ?_⟩, fun z2 => ?_⟩⟩
  · rw [if_pos (by omega)] at q; exact q h (fun _ _ _ => rfl)
  · rw [if_neg (by omega), if_neg c] at q
    have wT := H.2.2.1.w0 c
    refine ⟨fun y => f_looks H wT ?_, fun y => f_looks H wT ?_⟩
    · rw [if_neg y] at q; exact q
    · rw [if_pos y] at q; exact q
  · rw [if_neg (by omega), if_pos c] at q; exact q h (fun _ _ _ => rfl)
  · rw [if_pos (by omega)] at q; exact q h (fun _ _ _ => rfl)
theorem x_parts (H : cA E T P h) {x w : Int} (q : ∀ h' : Hp, (∀ a : Int, a ≠ 605 → a ≠ 606 → h' a = h a) → Q (ptsV E P T x w) h') : Good g (d + 6) i9_parts [LR 9 4, LI x, LI w] S0 h S0 (retI Q) := by
  obtain ⟨a1, a2, a3, a4, a5, a6, a7⟩ := id H
  unfold ptsV at q
  refine g9_parts (fun _ _ => v9_parts (x_patternOf (E := E) (d := d + 4) a5 a6 (fun c => ⟨fun z => absurd rfl z, fun _ => ?_⟩) (fun x0 x1 x2 => ⟨fun _ => ?_, fun z => absurd z (by omega)⟩)))
  · rw [if_pos c] at q; exact q h (fun _ _ _ => rfl)
  · rw [if_neg (not_not_intro ⟨x0, x1, x2⟩)] at q
    refine ⟨fun z => by rw [if_pos (by omega)] at q; exact q h (fun _ _ _ => rfl), fun z => ⟨fun z2 => ?_, fun z2 => by rw [if_pos (by omega)] at q; exact q h (fun _ _ _ => rfl)⟩⟩
    rw [if_neg (by omega)] at q
    refine x_isInNet (E := E) (d := d + 4) a5 a6 x0 x1 (bz (fun c => ?_) (fun c => ?_))
    · rw [if_pos (Or.inl c)] at q; exact q h (fun _ _ _ => rfl)
    · rw [a4.1.1]
      refine ⟨fun y => x_marksGo H (a3.w0 y) x0 x1 c (fun h3 F3 s3 => ?_), fun y => by rw [if_pos (Or.inr y)] at q; exact q h (fun _ _ _ => rfl)⟩
      rw [if_neg (fun v => v.elim (fun v => v c) y)] at q
      have q := q h3 F3
      rw [((H.fg F3).2.2.2.2.2.1 x x0 x1).2.1.1]
      refine ⟨by omega, fun v => ?_, fun v => by rwa [if_pos (by omega)] at q⟩
      rw [if_neg (by omega)] at q
      exact ⟨fun v2 => by rw [if_neg v2] at q; rw [s3 v]; exact q, fun v2 => by rwa [if_pos v2] at q⟩
theorem y_parts (H : mA E T P h) {x w : Int} (q : ∀ h' : Hp, mFrG h h' → Q (ptsV E P T x w) h') : Good g (d + 4) i10_parts [LR 10 608, LI x, LI w] S0 h S0 (retI Q) := by
  obtain ⟨a1, a2, a3, a4, a5, a6⟩ := id H
  have rf : mFrG h h := ⟨fun _ _ _ => rfl, fun _ _ => rfl⟩
  unfold ptsV at q
  refine g10_parts (fun _ _ => v10_parts (y_noPattern (E := E) (d := d + 1) a5 a6 (bz (fun c => ?_) (fun c => by rw [if_pos c] at q; exact q h rf))))
  rw [if_neg c] at q
  have c := Classical.not_not.mp c
  refine m_in (d := d + 2) (bn (fun z => ?_) (fun z => by rw [if_pos z] at q; exact q h rf))
  rw [if_neg (not_not_intro z)] at q
  refine y_inNet (d := d + 1) a1 a2 a5 a6 c.1 c.2.1 (bz (fun z2 => by rw [if_pos (Or.inl z2)] at q; exact q h rf) (fun z2 => ?_))
  rw [a4.1.1]
  refine ⟨fun y => y_goes H (a3.w0 y) c.1 c.2.1 z2 (fun h3 F3 s3 => ?_), fun y => by rw [if_pos (Or.inr y)] at q; exact q h rf⟩
  rw [if_neg (fun v => v.elim (fun v => v z2) y)] at q
  have q := q h3 F3
  have gb := gw0_b (E := E) (P := (P x).2.2) (T := T)
  rw [((((H.fg F3).2.2.2.2.2 x c.1 c.2.1).2 c.2.2).2).1]
  refine ⟨c.1, c.2.1, fun v => ?_, fun v => by rwa [if_pos (by omega)] at q⟩
  rw [if_neg (by omega)] at q
  exact ⟨fun v2 => by rw [if_neg v2] at q; rw [s3 (by omega)]; exact q, fun v2 => by rwa [if_pos v2] at q⟩
theorem y_looks (H : mA E T P h) {w : Int} (q : ∀ h' : Hp, mFrG h h' → Q (lksV E P T w) h') : Good g (d + 5) i10_looks [LR 10 608, LI w] S0 h S0 (retI Q) := by
  obtain ⟨a1, a2, a3, a4, a5, a6⟩ := id H
  have rf : mFrG h h := ⟨fun _ _ _ => rfl, fun _ _ => rfl⟩
  unfold lksV at q
  refine g10_looks (fun _ => v10_looks (m_in (d := d + 3) (bn (fun z => ?_) (fun z => by rw [if_pos z] at q; exact q h rf))))
  rw [if_neg (not_not_intro z)] at q
  rw [a4.1.1]
  refine ⟨fun c => ?_, fun c => by rw [if_pos c] at q; exact q h rf⟩
  rw [if_neg c] at q
  have wT := a3.w0 c
  generalize hu : (if w = 0 then (1 : Int) else 0) = u at q
  have lp : ∀ (m y : Nat) (h2 : Hp), y + m = 40 → mFrG h h2 → L0 g (d + 4) m10_looks (retI Q) 29 [some (LR 10 608), some (LI w), some (LI (nsum P (lkO E P T u) y)), some (LI y), none, none] h2 := by
    intro m
    induction m with
    | zero =>
      intro y h2 hy F
      refine v10_looks_29 ⟨fun _ => ?_, fun z => absurd (by omega) z⟩
      rw [show y = 40 by omega]
      exact q h2 F
    | succ m ih =>
      intro y h2 hy F
      have H2 := H.fg F
      obtain ⟨b1, b2, b3, b4, b5, b6⟩ := id H2
      have b := nsum_b (P := P) (f := lkO E P T u) y (fun p p0 p1 _ => lkO_b (a5 p p0 (by omega)).2.1)
      have l := ln_b (p := y) a5 (by omega) (by omega)
      have ob := ots_b (P := P) (p := y) y
      have X : ∀ h3 : Hp, mFrG h h3 → _ := fun h3 F3 => ih (y + 1) h3 (by omega) F3
      rw [nsum_s] at X
      refine v10_looks_29 ⟨fun z => absurd z (by omega), fun _ => y_inNet (d := d + 2) b1 b2 b5 b6 (by omega) (by omega) (bz (fun c => ?_) (fun c => ?_))⟩
      · rw [if_neg c, Int.add_zero] at X
        rw [w32_id (by omega) (by omega)]
        exact X h2 F
      · rw [if_pos c] at X
        refine y_goes (d := d + 1) H2 wT (by omega) (by omega) c (fun h3 F3 _ => ?_)
        have F4 : mFrG h h3 := ⟨fun a x1 x2 => by rw [F3.1 a x1 x2]; exact F.1 a x1 x2, fun j hj => by rw [F3.2 j hj]; exact F.2 j hj⟩
        have H3 := H.fg F4
        have gb := gw0_b (E := E) (P := (P y).2.2) (T := T)
        replace X := X h3 F4
        generalize hS : nsum P (lkO E P T u) y = S at X b ⊢
        unfold lkO at X
        rw [show ((y : Nat) : Int).toNat = y by omega] at X
        have e27 : h3 627 y = ln (P y).2.2 := (((H3.2.2.2.2.2 y (by omega) (by omega)).2 c.1).2).1
        generalize (gw0 E (P y).2.2 T).1 = G at *
        generalize hO : (if u = 0 then (0 : Int) else ots P y y) = O at X
        have inner : ∀ (m2 : Nat) (n : Int), 1 ≤ n → n + m2 = min (G + 1) (ln (P y).2.2) + 1 → L0 g (d + 4) m10_looks (retI Q) 53 [some (LR 10 608), some (LI w), some (LI (S + max (n - 1 - O) 0)), some (LI y), some (LI G), some (LI n)] h3 := by
          intro m2
          induction m2 with
          | zero =>
            intro n n1 hn
            have Y : L0 g (d + 4) m10_looks (retI Q) 29 [some (LR 10 608), some (LI w), some (LI (S + max (n - 1 - O) 0)), some (LI ((y : Int) + 1)), none, none] h3 := by
              rw [show n - 1 = min (G + 1) (ln (P y).2.2) by omega]
              exact X
            refine v10_looks_53 ?_
            rw [e27, w32_id (x := (y : Int) + 1) (by omega) (by omega), w32_id (x := G + 1) (by omega) (by omega)]
            exact ⟨by omega, by omega, fun _ => Y, fun v => ⟨fun _ => Y, fun v2 => absurd (by omega) v2⟩⟩
          | succ m2 ih2 =>
            intro n n1 hn
            have Y := ih2 (n + 1) (by omega) (by omega)
            have oO : 0 ≤ O ∧ O ≤ 24 := by rw [← hO]; split <;> omega
            refine v10_looks_53 ?_
            rw [e27, w32_id (x := G + 1) (by omega) (by omega), w32_id (x := n + 1) (by omega) (by omega)]
            refine ⟨by omega, by omega, fun v => absurd v (by omega), fun _ => ⟨fun v => absurd v (by omega), fun _ => ⟨fun v => ?_, fun v => ?_⟩⟩⟩
            · have u0 : u = 0 := by rw [← hu, if_neg (show ¬ w = 0 by omega)]
              have O0 : O = 0 := by rw [← hO, if_pos u0]
              rw [w32_id (by omega) (by omega), show S + max (n - 1 - O) 0 + 1 = S + max (n + 1 - 1 - O) 0 by omega]
              exact Y
            · have u1 : u = 1 := by rw [← hu, if_pos (show w = 0 by omega)]
              have O1 : O = ots P y y := by rw [← hO, if_neg (by omega)]
              refine m_isNew (d := d) H3.1 H3.2.1 H3.2.2.2.2.1 H3.2.2.2.2.2 (by omega) c.1 n1 (bz (fun v2 => ?_) (fun v2 => ?_))
              · rw [w32_id (by omega) (by omega), Int.add_zero, show S + max (n - 1 - O) 0 = S + max (n + 1 - 1 - O) 0 by omega]
                exact Y
              · rw [w32_id (by omega) (by omega), show S + max (n - 1 - O) 0 + 1 = S + max (n + 1 - 1 - O) 0 by omega]
                exact Y
        have Y := inner (min (G + 1) (ln (P y).2.2)).toNat 1 (by omega) (by omega)
        have oO : 0 ≤ O := by rw [← hO]; split <;> omega
        rw [show max ((1 : Int) - 1 - O) 0 = 0 by omega, Int.add_zero] at Y
        exact Y
  exact lp 40 0 h rfl rf
end
