/-! MATCHING, the model: going back -/
theorem mFrm.r {h0 h : Hp} (F : mFrm h0 h) {a i v : Int} (ha : 641 ≤ a ∧ a ≤ 653) : mFrm h0 (hup h a i v) := ⟨fun b c1 c2 => by rw [hup_r (by omega)]; exact F.1 b c1 c2, fun k c1 c2 c3 => by rw [hup_ne (by omega)]; exact F.2 k c1 c2 c3⟩
section
variable {g : Gl} {d : Nat} {h h0 : Hp} {E : Ev} {P T : NL} {pp G M : Int} {cs : List Cho} {s : St} {fill : Fl} {Q : Hp → Prop}
theorem KL_0 {D : Nat} (q : Q h) : L0 g D m10_fitAll (retV Q) 67 [some (LR 10 608), none, none, some (LI 0), none] h := v10_fitAll_67 ⟨fun _ => q, fun z => absurd rfl z⟩
theorem m_goBack {D : Nat} (H : MHs E P T pp h0) (B : MBS h0 P T pp G (4 * s.1 - 3) cs s h) (lc : (cs.length : Int) ≤ s.1) (n1 : s.2.1 ≠ 1) (n2 : s.2.2.1 ≠ 1) (K : bk g D Q h0 P T pp cs s) : Good g (d + 3) i10_goBack [LR 10 608] S0 h S0 (retI (fun r h' => (r = 0 → L0 g D m10_fitAll (retV Q) 67 [some (LR 10 608), none, none, some (LI 0), none] h') ∧ (¬ r = 0 → L0 g D m10_fitAll (retV Q) 67 [some (LR 10 608), none, none, some (LI 1), none] h'))) := by
  obtain ⟨F, e51, g0, e60, C, bd, An, os, ocs⟩ := B
  unfold bk at K
  rw [if_neg (by omega)] at K
  refine g10_goBack (v10_goBack ?_)
  rw [e60]
  cases cs with
  | nil => exact ⟨fun z => absurd rfl z, fun _ => ⟨fun _ => KL_0 (K h F An), fun z => absurd rfl z⟩⟩
  | cons e cs =>
    obtain ⟨kn, p, t, at_, rest, fl⟩ := e
    have len : (((((kn, p, t, at_, rest, fl) :: cs : List Cho).length : Nat)) : Int) = (cs.length : Nat) + 1 := by simp
    rw [len] at lc bd e60
    rw [len]
    obtain ⟨c1, c2, c3, c4, c5, c6, c7, c8, c9⟩ := C
    simp only at c1 c2 c3 c4 c5 c8 K
    have oc := ocs _ List.mem_cons_self
    obtain ⟨p0, p1, t0, t1, okr, okf, okk⟩ := oc
    simp only at p0 p1 t0 t1 okr okf okk
    have tr0 := os.1
    have tr1 := os.2.1
    generalize hN : ((cs.length : Nat) : Int) = N at *
    have N0 : 0 ≤ N := by omega
    obtain ⟨a1, a2, a3, a4, a5, a6, a7, a8, a9, a10⟩ := id H
    have lT := a4.2.2.1
    have sT := sz_le (L := T) t0 t1
    have bN := bd N N0 (by omega)
    refine ⟨fun _ => ?_, fun z => absurd z (by omega)⟩
    rw [show N + 1 - 1 = N by omega, w32_id (x := N) (by omega) (by omega)]
    refine ⟨N0, by omega, fun h2 k2 => ?_⟩
    generalize hb : h 650 N = b at *
    -- what holds behind the restoring of fillings
    have lp : ∀ (m : Nat) (y : Int) (h3 : Hp), 0 ≤ y → y + m = 10 → (∀ a : Int, a ≠ 644 → h3 a = h2 a) → (∀ k : Int, 0 ≤ k → k < y → h3 644 k = fl k) → L0 g (d + 2) m10_goBack (retI (fun r h' => (r = 0 → L0 g D m10_fitAll (retV Q) 67 [some (LR 10 608), none, none, some (LI 0), none] h') ∧ (¬ r = 0 → L0 g D m10_fitAll (retV Q) 67 [some (LR 10 608), none, none, some (LI 1), none] h'))) 28 [some (LR 10 608), some (LI N), some (LI y), none, none] h3 := by
      intro m
      induction m with
      | zero =>
        intro y h3 y0 hy F3 R3
        have row : ∀ a : Int, a ≠ 644 → a ≠ 608 → h3 a = h a := fun a x1 x2 => by rw [F3 a x1, k2, hup_r x2]
        have f3 : ∀ j : Int, j ≠ 51 → h3 608 j = h 608 j := fun j hj => by rw [F3 608 (by decide), k2, hup_nj hj]
        have g51 : h3 608 51 = b := by rw [F3 608 (by decide), k2, hup_at]
        have Fr3 : mFrm h0 h3 := ⟨fun a x1 x2 => by rw [row a (by omega) x1]; exact F.1 a x1 x2, fun j x1 x2 x3 => by rw [f3 j x1]; exact F.2 j x1 x2 x3⟩
        have H3 := H.fr Fr3
        have An3 : mAn s h3 := An.to (fun j j0 j1 => f3 j (by omega)) (row 652 (by decide) (by decide))
        have fl3 : ∀ k : Int, 0 ≤ k → k < 10 → h3 644 k = fl k := fun k b0 b1 => R3 k b0 (by omega)
        have gr3 : gl pp h3 b rest (h 649 N) := c8.to (Int.le_refl _) (fun i _ _ => ⟨by rw [row 641 (by decide) (by decide)], by rw [row 642 (by decide) (by decide)], by rw [row 643 (by decide) (by decide)]⟩)
        have C3 : chs pp h3 b cs := c9.to (Int.le_refl _) (fun i _ _ => ⟨by rw [row 641 (by decide) (by decide)], by rw [row 642 (by decide) (by decide)], by rw [row 643 (by decide) (by decide)]⟩) (fun a i x0 x1 _ _ => by rw [row a (by omega) (by omega)]) (fun i _ _ => by rw [row 651 (by decide) (by decide)])
        have ocs' : ∀ e ∈ cs, okCh P T e := fun e he => ocs e (List.mem_cons_of_mem _ he)
        -- without the choice
        have pop : ∀ {h4 : Hp}, (∀ a : Int, a ≠ 608 → a ≠ 648 → h4 a = h3 a) → (∀ i : Int, i ≠ N → h4 648 i = h3 648 i) → (∀ j : Int, j ≠ 60 → j ≠ 66 → h4 608 j = h3 608 j) → h4 608 60 = N → MBS h0 P T pp b (4 * s.1 - 3) cs s h4 := by
          intro h4 r4 q4 j4 e4
          refine ⟨⟨fun a x1 x2 => by rw [r4 a x1 (by omega)]; exact Fr3.1 a x1 x2, fun j x1 x2 x3 => by rw [j4 j (by omega) x3]; exact Fr3.2 j x1 x2 x3⟩, by rw [j4 51 (by decide) (by decide)]; exact g51, c6, by rw [hN]; exact e4, ?_, fun i i0 i1 => ?_, An3.to (fun j j0 j1 => j4 j (by omega) (by omega)) (r4 652 (by decide) (by decide)), os, ocs'⟩
          · refine C3.to (Int.le_refl _) (fun i _ _ => ⟨by rw [r4 641 (by decide) (by decide)], by rw [r4 642 (by decide) (by decide)], by rw [r4 643 (by decide) (by decide)]⟩) (fun a i x0 x1 i0 i1 => ?_) (fun i _ _ => by rw [r4 651 (by decide) (by decide)])
            rw [hN] at i1
            by_cases ca : a = 648
            · subst ca
              exact q4 i (by omega)
            · rw [r4 a (by omega) ca]
          · rw [r4 650 (by decide) (by decide), row 650 (by decide) (by decide)]
            rw [hN] at i1
            exact bd i i0 (by omega)
        -- with the choice, at its next place
        have stay : ∀ {h4 : Hp}, (∀ a : Int, a ≠ 608 → a ≠ 648 → h4 a = h3 a) → (∀ i : Int, i ≠ N → h4 648 i = h3 648 i) → h4 648 N = at_ + 1 → (∀ j : Int, j ≠ 60 → j ≠ 66 → h4 608 j = h3 608 j) → h4 608 60 = N + 1 → okCh P T (kn, p, t, at_ + 1, rest, fl) → MBS h0 P T pp b (4 * s.1 - 3) ((kn, p, t, at_ + 1, rest, fl) :: cs) s h4 := by
          intro h4 r4 q4 v4 j4 e4 ok4
          have w4 : ∀ a : Int, 645 ≤ a → a ≤ 651 → a ≠ 648 → h4 a = h a := fun a x0 x1 x2 => by rw [r4 a (by omega) x2, row a (by omega) (by omega)]
          refine ⟨⟨fun a x1 x2 => by rw [r4 a x1 (by omega)]; exact Fr3.1 a x1 x2, fun j x1 x2 x3 => by rw [j4 j (by omega) x3]; exact Fr3.2 j x1 x2 x3⟩, by rw [j4 51 (by decide) (by decide)]; exact g51, c6, by rw [e4]; simp; omega, ?_, fun i i0 i1 => ?_, An3.to (fun j j0 j1 => j4 j (by omega) (by omega)) (r4 652 (by decide) (by decide)), os, fun e he => ?_⟩
          · show h4 645 (cs.length : Nat) = kn ∧ _
            rw [hN]
            refine ⟨by rw [w4 645 (by decide) (by decide) (by decide)]; exact c1, by rw [w4 646 (by decide) (by decide) (by decide)]; exact c2, by rw [w4 647 (by decide) (by decide) (by decide)]; exact c3, v4, fun k b0 b1 => by rw [w4 651 (by decide) (by decide) (by decide)]; exact c5 k b0 b1, by rw [w4 650 (by decide) (by decide) (by decide), hb]; exact c6, by rw [w4 650 (by decide) (by decide) (by decide), hb]; exact Int.le_refl _, ?_, ?_⟩
            · rw [w4 650 (by decide) (by decide) (by decide), w4 649 (by decide) (by decide) (by decide), hb]
              exact gr3.to (Int.le_refl _) (fun i _ _ => ⟨by rw [r4 641 (by decide) (by decide)], by rw [r4 642 (by decide) (by decide)], by rw [r4 643 (by decide) (by decide)]⟩)
            · rw [w4 650 (by decide) (by decide) (by decide), hb]
              refine C3.to (Int.le_refl _) (fun i _ _ => ⟨by rw [r4 641 (by decide) (by decide)], by rw [r4 642 (by decide) (by decide)], by rw [r4 643 (by decide) (by decide)]⟩) (fun a i x0 x1 i0 i1 => ?_) (fun i _ _ => by rw [r4 651 (by decide) (by decide)])
              rw [hN] at i1
              by_cases ca : a = 648
              · subst ca
                exact q4 i (by omega)
              · rw [r4 a (by omega) ca]
          · rw [r4 650 (by decide) (by decide), row 650 (by decide) (by decide)]
            have : ((((kn, p, t, at_ + 1, rest, fl) :: cs : List Cho).length : Nat) : Int) = N + 1 := by simp; omega
            exact bd i i0 (by omega)
          · rcases List.mem_cons.mp he with rfl | z
            · exact ok4
            · exact ocs' e z
        have b9 : b + 4 < 10200 := by omega
        -- to the loop's head, once goals are there
        have fin : ∀ {h4 h5 h6 : Hp} {l n : Int} {L : List (Int × Int)} {cs2 : List Cho}, MBS h0 P T pp b (4 * s.1 - 3) cs2 s h4 → (cs2.length : Int) ≤ s.1 → h4 644 = h3 644 → gaS h4 h5 b (b + n) → 0 ≤ n → n ≤ 4 → gl pp h5 (b + n) L l → okG P T L → h6 = hup h5 608 66 l → MGo g D Q h0 P T pp L fl cs2 s → L0 g D m10_fitAll (retV Q) 67 [some (LR 10 608), none, none, some (LI 1), none] h6 := by
          intro h4 h5 h6 l n L cs2 B4 lc4 x44 A5 n0 n4 L5 oL k6 X
          have B5 := B4.ga A5 (by omega)
          refine X h6 ⟨b + n, ?_, by omega, lc4, ?_, fun k b0 b1 => ?_, okf, oL⟩
          · obtain ⟨F5, y51, y0, y60, y2, y3, y4, y5, y6⟩ := B5
            rw [k6]
            exact ⟨F5.f (by omega), by rw [hup_nj (by decide)]; exact y51, y0, by rw [hup_nj (by decide)]; exact y60, y2.to (Int.le_refl _) (fun i _ _ => ⟨hup_ne (by decide), hup_ne (by decide), hup_ne (by decide)⟩) (fun a i x0 x1 _ _ => hup_ne (by omega)) (fun i _ _ => hup_ne (by decide)), fun i i0 i1 => by rw [hup_ne (by decide)]; exact y3 i i0 i1, y4.to (fun j j0 j1 => hup_nj (by omega)) (hup_r (by decide)), y5, y6⟩
          · rw [k6, hup_at]
            exact L5.to (Int.le_refl _) (fun i _ _ => ⟨hup_ne (by decide), hup_ne (by decide), hup_ne (by decide)⟩)
          · rw [k6, hup_ne (by decide), A5.2.2.1 644 (by decide) (by decide) (by decide), x44]
            exact fl3 k b0 b1
        refine v10_goBack_28 ⟨fun _ => ⟨N0, by omega, ?_⟩, fun z => absurd (by omega) z⟩
        rw [row 645 (by decide) (by decide), row 646 (by decide) (by decide), row 647 (by decide) (by decide), row 648 (by decide) (by decide), c1, c2, c3, c4]
        have en : ∀ x : Int, 0 ≤ x → enc pp x = 24 * pp + x := fun x hx => by unfold enc; rw [if_neg (by omega)]
        have mk0 : enc pp (-2) = -2 := by unfold enc; rw [if_pos rfl]
        have okk' : (kn = 0 ∧ nd P p 0 = 0 ∧ nd P p 1 = nd T t 1 ∧ 1 ≤ at_ ∧ at_ < (nO P p : Nat)) ∨ (kn = 1 ∧ t < at_ ∧ at_ < t + sz T t) ∨ (kn = 2 ∧ t ≤ at_ ∧ at_ < t + sz T t) := okk
        have at1 : 0 ≤ at_ ∧ at_ ≤ 200 := by
          rcases okk' with z | z | z
          · have : nO P p ≤ 24 := by
              unfold nO
              split
              · exact (oc_p _ (by have := (a8 p p0 p1).p7 a1; omega)).2
              · decide
            omega
          · omega
          · omega
        have e39 : h3 639 t = t + sz T t := (H3.2.2.1.2 t t0 t1).2.2
        rw [w32_id (x := at_ + 1) (by omega) (by omega), e39]
        have lcs : (cs.length : Int) ≤ s.1 := by omega
        have lcs1 : ∀ e : Cho, (((e :: cs).length : Nat) : Int) ≤ s.1 := fun e => by simp; omega
        refine ⟨fun q1 => ⟨fun q2 => ⟨t0, by omega, fun q3 h5 k5 h6 k6 => ?_, fun q3 h7 k7 => ?_⟩, fun q2 h15 k15 => ⟨t0, by omega, ?_⟩⟩, fun q1 h27 k27 => ?_⟩
        · -- nowhere, the last
          rw [if_neg q1, if_neg q2, if_neg (by omega)] at K
          refine ⟨fun z => absurd z (by decide), fun _ => ?_⟩
          have x60 : h3 608 60 = N + 1 := by rw [f3 60 (by decide)]; exact e60
          rw [x60, show N + 1 - 1 = N by omega, w32_id (x := N) (by omega) (by omega)] at k5
          have B5 : MBS h0 P T pp b (4 * s.1 - 3) cs s h5 := pop (fun a x1 _ => by rw [k5, hup_r x1]) (fun i _ => by rw [k5, hup_ne (by decide)]) (fun j x1 _ => by rw [k5, hup_nj x1]) (by rw [k5, hup_at])
          have e49 : h5 649 N = h 649 N := by rw [k5, hup_ne (by decide), row 649 (by decide) (by decide)]
          rw [e49] at k6
          exact fin (n := 0) (l := h 649 N) B5 lcs (by rw [k5, hup_r (by decide)]) ⟨by rw [B5.2.1]; omega, fun _ _ _ _ _ => rfl, fun _ _ _ _ => rfl, fun _ _ => rfl⟩ (by decide) (by decide) (gr3.to (by omega) (fun i _ _ => ⟨by rw [k5, hup_ne (by decide)], by rw [k5, hup_ne (by decide)], by rw [k5, hup_ne (by decide)]⟩)) okr k6 K
        · -- nowhere, the next
          rw [if_neg q1, if_neg q2, if_pos (by omega)] at K
          have kn2 : kn = 2 := by omega
          have ok4 : okCh P T (kn, p, t, at_ + 1, rest, fl) := ⟨p0, p1, t0, t1, okr, okf, Or.inr (Or.inr ⟨kn2, by simp only; omega, by simp only; omega⟩)⟩
          have B7 := stay (h4 := h7) (fun a _ x2 => by rw [k7, hup_r x2]) (fun i hi => by rw [k7, hup_nj hi]) (by rw [k7, hup_at]) (fun j _ _ => by rw [k7, hup_ne (by decide)]) (by rw [k7, hup_ne (by decide), f3 60 (by decide)]; exact e60) ok4
          rw [← mk0, ← en p p0]
          refine m_goal2 (r := []) B7.2.1 c6 (by omega) (show gl pp h7 b [] (-1) from rfl) (fun h8 A8 L8 _ => ?_)
          refine m_goal2 A8.1 (by omega) (by omega) L8 (fun h9 A9 L9 _ h10 k10 => ⟨fun z => absurd z (by decide), fun _ => ?_⟩)
          have A := A8.tr A9 (by omega)
          rw [show b + 1 + 1 = b + 2 by omega] at A L9
          refine fin (n := 2) (l := b + 1) B7 (lcs1 _) (by rw [k7, hup_r (by decide)]) A (by decide) (by decide) L9 (fun e he => ?_) k10 K
          rcases List.mem_cons.mp he with rfl | z
          · exact Or.inr ⟨p0, p1, by simp only; omega, by simp only; omega⟩
          · rcases List.mem_cons.mp z with rfl | z2
            · exact Or.inl rfl
            · cases z2
        · -- lower
          rw [if_neg q1, if_pos q2] at K
          have e39' : h15 639 t = t + sz T t := by rw [k15, hup_ne (by decide)]; exact e39
          have x60 : h15 608 60 = N + 1 := by rw [k15, hup_ne (by decide), f3 60 (by decide)]; exact e60
          rw [e39', x60, show N + 1 - 0 = N + 1 by omega, show N + 1 - 1 = N by omega, w32_id (x := N + 1) (by omega) (by omega), w32_id (x := N) (by omega) (by omega), ← en p p0]
          have oL : okG P T ((p, at_) :: rest) := fun e he => by
            rcases List.mem_cons.mp he with rfl | z
            · exact Or.inr ⟨p0, p1, by simp only; omega, by simp only; omega⟩
            · exact okr e z
          refine ⟨fun q3 h17 k17 => ?_, fun q3 h22 k22 => ?_⟩
          · rw [if_neg q3] at K
            have ok4 : okCh P T (kn, p, t, at_ + 1, rest, fl) := ⟨p0, p1, t0, t1, okr, okf, Or.inr (Or.inl ⟨q2, by simp only; omega, by simp only; omega⟩)⟩
            have B7 := stay (h4 := h17) (fun a x1 x2 => by rw [k17, hup_r x1, k15, hup_r x2]) (fun i hi => by rw [k17, hup_ne (by decide), k15, hup_nj hi]) (by rw [k17, hup_ne (by decide), k15, hup_at]) (fun j x1 _ => by rw [k17, hup_nj x1, k15, hup_ne (by decide)]) (by rw [k17, hup_at]) ok4
            have e49 : h17 649 N = h 649 N := by rw [k17, hup_ne (by decide), k15, hup_ne (by decide), row 649 (by decide) (by decide)]
            rw [e49]
            refine m_goal2 B7.2.1 c6 (by omega) (gr3.to (Int.le_refl _) (fun i _ _ => ⟨by rw [k17, hup_ne (by decide), k15, hup_ne (by decide)], by rw [k17, hup_ne (by decide), k15, hup_ne (by decide)], by rw [k17, hup_ne (by decide), k15, hup_ne (by decide)]⟩)) (fun h9 A9 L9 _ h10 k10 => ⟨fun z => absurd z (by decide), fun _ => ?_⟩)
            exact fin (n := 1) B7 (lcs1 _) (by rw [k17, hup_r (by decide), k15, hup_r (by decide)]) A9 (by decide) (by decide) L9 oL k10 K
          · rw [if_pos q3] at K
            have B7 : MBS h0 P T pp b (4 * s.1 - 3) cs s h22 := pop (fun a x1 x2 => by rw [k22, hup_r x1, k15, hup_r x2]) (fun i hi => by rw [k22, hup_ne (by decide), k15, hup_nj hi]) (fun j x1 _ => by rw [k22, hup_nj x1, k15, hup_ne (by decide)]) (by rw [k22, hup_at])
            have e49 : h22 649 N = h 649 N := by rw [k22, hup_ne (by decide), k15, hup_ne (by decide), row 649 (by decide) (by decide)]
            rw [e49]
            refine m_goal2 B7.2.1 c6 (by omega) (gr3.to (Int.le_refl _) (fun i _ _ => ⟨by rw [k22, hup_ne (by decide), k15, hup_ne (by decide)], by rw [k22, hup_ne (by decide), k15, hup_ne (by decide)], by rw [k22, hup_ne (by decide), k15, hup_ne (by decide)]⟩)) (fun h9 A9 L9 _ h10 k10 => ⟨fun z => absurd z (by decide), fun _ => ?_⟩)
            exact fin (n := 1) B7 lcs (by rw [k22, hup_r (by decide), k15, hup_r (by decide)]) A9 (by decide) (by decide) L9 oL k10 K
        · -- orders
          rw [if_pos q1] at K
          obtain ⟨_, s0, he, at0, atN⟩ : kn = 0 ∧ nd P p 0 = 0 ∧ nd P p 1 = nd T t 1 ∧ 1 ≤ at_ ∧ at_ < (nO P p : Nat) := by
            rcases okk' with z | z | z
            · exact z
            · omega
            · omega
          have op := a8 p p0 p1
          have o7 := op.p7 a1
          have oh : 0 ≤ nd P p 1 ∧ nd P p 1 < E 0 1 ∧ nd P p 7 = E 3 (nd P p 1) := by
            rcases op with z | z | z | z
            · exact ⟨z.2.1, z.2.2.1, z.2.2.2.2.2.2.2.2.1⟩
            · omega
            · omega
            · omega
          have o4 := a1.2.2.2.1
          have loose : nd P p 8 = 1 := Classical.byContradiction (fun z => by unfold nO at atN; rw [if_neg z] at atN; omega)
          have eN : nO P p = ocT.getD (nd P p 7).toNat 0 := by unfold nO; rw [if_pos loose]
          have e29 : h27 629 (24 * pp + p) = nd P p 1 := by rw [k27, hup_ne (by decide)]; exact (H3.2.2.2.2.2.2.1.2 p p0 p1).2.1
          have e11 : h27 611 (nd P p 1) = (((nd P p 7).toNat : Nat) : Int) := by rw [k27, hup_ne (by decide), (H3.2.1.2.2.2 _ oh.1 oh.2.1).2.1, ← oh.2.2]; omega
          have x60 : h27 608 60 = N + 1 := by rw [k27, hup_ne (by decide), f3 60 (by decide)]; exact e60
          rw [e29, e11, x60, show N + 1 - 0 = N + 1 by omega, show N + 1 - 1 = N by omega, w32_id (x := N + 1) (by omega) (by omega), w32_id (x := N) (by omega) (by omega)]
          refine ⟨by omega, by omega, oh.1, by omega, m_orders (by omega) ?_⟩
          rw [← eN]
          have hoN : at_.toNat < ocT.getD (nd P p 7).toNat 0 := by omega
          have oL : okG P T (prt P T p t (nd P p 7).toNat at_.toNat (nd P p 7).toNat 0 ++ rest) := fun e he' => by
            rcases List.mem_append.mp he' with z | z
            · have t7 : (nd P p 7).toNat = (nd T t 7).toNat := by
                have ot := a4.1 t t0 t1
                rcases ot with u | u | u | u
                · rw [u.2.2.2.2.2.2.2.2.1, ← he, ← oh.2.2]
                · omega
                · omega
                · omega
              exact Or.inr (okc_prt a9 a5 p0 p1 t0 t1 rfl t7 (by omega) hoN _ 0 (by omega) e z)
            · exact okr e z
          have eat : (((at_.toNat : Nat)) : Int) = at_ := by omega
          refine ⟨fun q3 h32 k32 => ?_, fun q3 h37 k37 => ?_⟩
          · rw [if_neg q3] at K
            have ok4 : okCh P T (kn, p, t, at_ + 1, rest, fl) := ⟨p0, p1, t0, t1, okr, okf, Or.inl ⟨q1, s0, he, by simp only; omega, by simp only; omega⟩⟩
            have B7 := stay (h4 := h32) (fun a x1 x2 => by rw [k32, hup_r x1, k27, hup_r x2]) (fun i hi => by rw [k32, hup_ne (by decide), k27, hup_nj hi]) (by rw [k32, hup_ne (by decide), k27, hup_at]) (fun j x1 _ => by rw [k32, hup_nj x1, k27, hup_ne (by decide)]) (by rw [k32, hup_at]) ok4
            have e49 : h32 649 N = h 649 N := by rw [k32, hup_ne (by decide), k27, hup_ne (by decide), row 649 (by decide) (by decide)]
            rw [e49, ← eat]
            refine m_partsBy (H.fr B7.1) B7.2.1 c6 (by omega) (gr3.to (Int.le_refl _) (fun i _ _ => ⟨by rw [k32, hup_ne (by decide), k27, hup_ne (by decide)], by rw [k32, hup_ne (by decide), k27, hup_ne (by decide)], by rw [k32, hup_ne (by decide), k27, hup_ne (by decide)]⟩)) p0 p1 t0 t1 s0 he rfl hoN (fun h33 l A9 L9 h36 k36 => ⟨fun z => absurd z (by decide), fun _ => ?_⟩)
            exact fin (n := (((nd P p 7).toNat : Nat) : Int)) B7 (lcs1 _) (by rw [k32, hup_r (by decide), k27, hup_r (by decide)]) A9 (by omega) (by omega) L9 oL k36 K
          · rw [if_pos q3] at K
            have B7 : MBS h0 P T pp b (4 * s.1 - 3) cs s h37 := pop (fun a x1 x2 => by rw [k37, hup_r x1, k27, hup_r x2]) (fun i hi => by rw [k37, hup_ne (by decide), k27, hup_nj hi]) (fun j x1 _ => by rw [k37, hup_nj x1, k27, hup_ne (by decide)]) (by rw [k37, hup_at])
            have e49 : h37 649 N = h 649 N := by rw [k37, hup_ne (by decide), k27, hup_ne (by decide), row 649 (by decide) (by decide)]
            rw [e49, ← eat]
            refine m_partsBy (H.fr B7.1) B7.2.1 c6 (by omega) (gr3.to (Int.le_refl _) (fun i _ _ => ⟨by rw [k37, hup_ne (by decide), k27, hup_ne (by decide)], by rw [k37, hup_ne (by decide), k27, hup_ne (by decide)], by rw [k37, hup_ne (by decide), k27, hup_ne (by decide)]⟩)) p0 p1 t0 t1 s0 he rfl hoN (fun h33 l A9 L9 h36 k36 => ⟨fun z => absurd z (by decide), fun _ => ?_⟩)
            exact fin (n := (((nd P p 7).toNat : Nat) : Int)) B7 lcs (by rw [k37, hup_r (by decide), k27, hup_r (by decide)]) A9 (by omega) (by omega) L9 oL k36 K
      | succ m ih =>
        intro y h3 y0 hy F3 R3
        refine v10_goBack_28 ⟨fun z => absurd z (by omega), fun _ => ?_⟩
        have e51' : h3 651 (10 * N + y) = fl y := by rw [F3 651 (by decide), k2, hup_ne (by decide)]; exact c5 y y0 (by omega)
        rw [w32_id (x := 10 * N) (by omega) (by omega), w32_id (x := 10 * N + y) (by omega) (by omega), w32_id (x := y + 1) (by omega) (by omega), e51']
        refine ⟨by omega, by omega, y0, by omega, fun h42 k42 => ih (y + 1) h42 (by omega) (by omega) (fun a ha => by rw [k42, hup_r ha]; exact F3 a ha) (fun k b0 b1 => ?_)⟩
        by_cases ck : k = y
        · subst ck
          rw [k42, hup_at]
        · rw [k42, hup_nj ck]
          exact R3 k b0 (by omega)
    exact lp 10 0 h2 (by decide) (by decide) (fun _ _ => rfl) (fun k b0 b1 => by omega)
end
