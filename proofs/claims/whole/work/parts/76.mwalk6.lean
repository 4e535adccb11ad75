/-! MATCHING, the model: a turn at a pair -/
section
variable {g : Gl} {D : Nat} {h h0 : Hp} {E : Ev} {P T : NL} {pp G M : Int} {cs : List Cho} {s : St} {fill : Fl} {Q : Hp → Prop}
theorem go_all (H : MHs E P T pp h0) (n1 : s.2.1 = 0) (n2 : s.2.2.1 = 0) {p t : Int} {r : List (Int × Int)} (p0 : 0 ≤ p) (p1 : p < ln P) (t0 : 0 ≤ t) (t1 : t < ln T)
    (k0 : 2000 ≤ s.1 → Fin_ Q h0 (s.1, 1, s.2.2))
    (kh : ¬ 2000 ≤ s.1 → nd P p 0 = 0 → (nd P p 1 ≠ nd T t 1 → bk g (D + 3) Q h0 P T pp cs (s.1 + 1, s.2)) ∧ (nd P p 1 = nd T t 1 → MGo g (D + 3) Q h0 P T pp (prt P T p t (nd P p 7).toNat 0 (nd P p 7).toNat 0 ++ r) fill (if nO P p = 1 then cs else (0, p, t, 1, r, fill) :: cs) (s.1 + 1, s.2)))
    (kn : ¬ 2000 ≤ s.1 → nd P p 0 = 1 → (nd T t 0 = 1 ∧ nd T t 5 = nd P p 5 → MGo g (D + 3) Q h0 P T pp r fill cs (s.1 + 1, s.2)) ∧ (¬ (nd T t 0 = 1 ∧ nd T t 5 = nd P p 5) → bk g (D + 3) Q h0 P T pp cs (s.1 + 1, s.2)))
    (ko : ¬ 2000 ≤ s.1 → nd P p 0 = 2 → (¬ fhG E P T p t → bk g (D + 3) Q h0 P T pp cs (s.1 + 1, s.2)) ∧ (fhG E P T p t → nd P p 3 < 0 → MGo g (D + 3) Q h0 P T pp r fill cs (s.1 + 1, s.2)) ∧ (fhG E P T p t → ¬ nd P p 3 < 0 → fill (nd P p 3) = -1 → MGo g (D + 3) Q h0 P T pp r (fup fill (nd P p 3) t) cs (s.1 + 1, s.2)) ∧ (fhG E P T p t → ¬ nd P p 3 < 0 → fill (nd P p 3) ≠ -1 → (alk T (fill (nd P p 3)) t → MGo g (D + 3) Q h0 P T pp r fill cs (s.1 + 1, s.2)) ∧ (¬ alk T (fill (nd P p 3)) t → bk g (D + 3) Q h0 P T pp cs (s.1 + 1, s.2))))
    (kb : ¬ 2000 ≤ s.1 → nd P p 0 = 3 → MGo g (D + 3) Q h0 P T pp ((p + 1, t) :: r) fill (if sz T t = 1 then cs else (1, p + 1, t, t + 1, r, fill) :: cs) (s.1 + 1, s.2))
    (kw : ¬ 2000 ≤ s.1 → nd P p 0 = 4 → MGo g (D + 3) Q h0 P T pp [(p + 1, t), (-2, 0)] fill ((2, p + 1, t, t, r, fill) :: cs) (s.1 + 1, s.2)) : MGo g (D + 3) Q h0 P T pp ((p, t) :: r) fill cs s := by
  obtain ⟨a1, a2, a3, a4, a5, a6, a7, a8, a9, a10⟩ := id H
  have op := a8 p p0 p1
  have o7 := op.p7 a1
  have ot := a4.1 t t0 t1
  have lT := a4.2.2.1
  have sT := sz_le (L := T) t0 t1
  have pT := sz_pos (L := T) t0 t1
  have o4 := a1.2.2.2.1
  have p2 : (nd P p 0 = 3 ∨ nd P p 0 = 4) → p + 1 < ln P := fun z => by
    have pa : (nd P p 7).toNat = 1 := by rcases op with o | o | o | o <;> omega
    have := kd_lt a9 p0 p1 (j := 0) (by omega)
    rwa [kd_0] at this
  refine go_pair H n1 n2 p0 p1 t0 t1 k0 (fun c h3 G l B3 g1 lc gr _ hf of oL R R0 R1 => ?_)
  have H3 := H.fr B3.1
  have M := H3.2.2.2.2.2.2.1.2 p p0 p1
  have MT := H3.2.2.1.2 t t0 t1
  have g0 := B3.2.2.1
  have tr1 := B3.2.2.2.2.2.2.2.1.2.1
  simp only at tr1
  rw [M.1, M.2.1, MT.1, MT.2.2, w32_id (x := 24 * pp + p + 1) (by omega) (by omega), w32_id (x := t + 1) (by omega) (by omega)]
  have en : ∀ x : Int, 0 ≤ x → enc pp x = 24 * pp + x := fun x hx => by unfold enc; rw [if_neg (by omega)]
  have mk0 : enc pp (-2) = -2 := by unfold enc; rw [if_pos rfl]
  -- a state with goals added
  have fin : ∀ {h4 h5 h6 : Hp} {l' n : Int} {L : List (Int × Int)} {cs2 : List Cho}, MBS h0 P T pp G (4 * (s.1 + 1) - 3) cs2 (s.1 + 1, s.2) h4 → (cs2.length : Int) ≤ s.1 + 1 → h4 644 = h3 644 → gaS h4 h5 G (G + n) → 0 ≤ n → n ≤ 4 → gl pp h5 (G + n) L l' → okG P T L → h6 = hup h5 608 66 l' → MGo g (D + 3) Q h0 P T pp L fill cs2 (s.1 + 1, s.2) → R 1 h6 := by
    intro h4 h5 h6 l' n L cs2 B4 lc4 x44 A5 n0 n4 L5 oL' k6 X
    have B5 := B4.ga A5 (by omega)
    refine R1 h6 ⟨L, fill, cs2, ⟨G + n, by rw [k6]; exact B5.f, by simp only; omega, lc4, ?_, fun k b0 b1 => ?_, of, oL'⟩, X⟩
    · rw [k6, hup_at]
      exact L5.to (Int.le_refl _) (fun i _ _ => ⟨hup_ne (by decide), hup_ne (by decide), hup_ne (by decide)⟩)
    · rw [k6, hup_ne (by decide), A5.2.2.1 644 (by decide) (by decide) (by decide), x44]
      exact hf k b0 b1
  refine ⟨fun c2 => ?_, fun c2 => ⟨t0, by omega, fun c3 => ?_, fun c3 => R0 h3 ⟨G, cs, B3, by omega, (kh c c2).1 (fun z => c3 z.symm)⟩⟩, fun c2 h22 k22 => ⟨t0, by omega, ?_⟩, fun c2 h26 k26 => ?_, fun c2 => ⟨t0, by omega, fun c3 => ?_, fun c3 => ?_⟩⟩
  · -- nowhere
    have s4 : nd P p 0 = 4 := by rcases op with o | o | o | o <;> omega
    have q2 := p2 (Or.inr s4)
    have okc1 : okCh P T (2, p + 1, t, t, r, fill) := ⟨by simp only; omega, q2, t0, t1, oL, of, Or.inr (Or.inr ⟨rfl, Int.le_refl _, by simp only; omega⟩)⟩
    rw [show 24 * pp + p + 1 = 24 * pp + (p + 1) by omega]
    refine m_choose B3 gr hf (by omega) (by omega) okc1 (fun h4 B4 F4 _ => ?_)
    rw [← mk0, ← en (p + 1) (by omega)]
    refine m_goal2 (r := []) B4.2.1 g0 (by omega) (show gl pp h4 G [] (-1) from rfl) (fun h8 A8 L8 _ => ?_)
    refine m_goal2 A8.1 (by omega) (by omega) L8 (fun h9 A9 L9 _ h10 k10 => ?_)
    have A := A8.tr A9 (by omega)
    rw [show G + 1 + 1 = G + 2 by omega] at A L9
    refine fin (n := 2) B4 (by simp; omega) (F4 644 (by decide) (by decide)) A (by decide) (by decide) L9 (fun e he => ?_) k10 (kw c s4)
    rcases List.mem_cons.mp he with rfl | z
    · exact Or.inr ⟨by simp only; omega, q2, t0, t1⟩
    · rcases List.mem_cons.mp z with rfl | z2
      · exact Or.inl rfl
      · cases z2
  · -- a head that the node has
    have oh : 0 ≤ nd P p 1 ∧ nd P p 1 < E 0 1 ∧ nd P p 7 = E 3 (nd P p 1) ∧ nd P p 8 = E 4 (nd P p 1) := by
      rcases op with z | z | z | z
      · exact ⟨z.2.1, z.2.2.1, z.2.2.2.2.2.2.2.2.1, z.2.2.2.2.2.2.2.2.2.1⟩
      · omega
      · omega
      · omega
    have he : nd P p 1 = nd T t 1 := c3.symm
    have hl := a1.2.2.2.2.2 _ oh.1 oh.2.1
    have X := (kh c c2).2 he
    rw [(H3.2.1.2.2.2 _ oh.1 oh.2.1).2.2, (H3.2.1.2.2.2 _ oh.1 oh.2.1).2.1]
    have t7 : (nd P p 7).toNat = (nd T t 7).toNat := by
      rcases ot with u | u | u | u
      · rw [u.2.2.2.2.2.2.2.2.1, ← he, ← oh.2.2.1]
      · omega
      · omega
      · omega
    have oc1 := oc_p (nd P p 7).toNat (by omega)
    have oL2 : okG P T (prt P T p t (nd P p 7).toNat 0 (nd P p 7).toNat 0 ++ r) := fun e he' => by
      rcases List.mem_append.mp he' with z | z
      · exact Or.inr (okc_prt a9 a5 p0 p1 t0 t1 rfl t7 (by omega) (by omega) _ 0 (by omega) e z)
      · exact oL e z
    have go : ∀ {h4 : Hp} {cs2 : List Cho}, MBS h0 P T pp G (4 * (s.1 + 1) - 3) cs2 (s.1 + 1, s.2) h4 → (cs2.length : Int) ≤ s.1 + 1 → (∀ a : Int, a ≠ 608 → ¬ (645 ≤ a ∧ a ≤ 651) → h4 a = h3 a) → (if nO P p = 1 then cs else (0, p, t, 1, r, fill) :: cs) = cs2 → L0 g (D + 2) m10_doGoal (retI R) 199 [some (LR 10 608), some (LI (24 * pp + p)), some (LI t), some (LI l), none] h4 := by
      intro h4 cs2 B4 lc4 F4 e2
      rw [e2] at X
      refine v10_doGoal_199 ?_
      have Y := m_partsBy (g := g) (d := D) (h := h4) (E := E) (G := G) (o := 0) (Q := fun r3 h1 => ∀ h4 : Hp, h4 = hup h1 608 66 r3 → R 1 h4) (H.fr B4.1) B4.2.1 g0 (by omega) (gr.to (Int.le_refl _) (fun i _ _ => ⟨by rw [F4 641 (by decide) (by decide)], by rw [F4 642 (by decide) (by decide)], by rw [F4 643 (by decide) (by decide)]⟩)) p0 p1 t0 t1 c2 he rfl (by omega) (fun h5 l5 A5 L5 h6 k6 => fin (n := (((nd P p 7).toNat : Nat) : Int)) B4 lc4 (F4 644 (by decide) (by decide)) A5 (by omega) (by omega) L5 oL2 k6 X)
      exact Y
    refine ⟨oh.1, by omega, fun _ => ⟨fun c4 => go B3 (by omega) (fun _ _ _ => rfl) ?_, fun c4 => ⟨fun c5 => go B3 (by omega) (fun _ _ _ => rfl) ?_, fun c5 => ?_⟩⟩⟩
    · have : nO P p = 1 := by unfold nO; rw [if_neg (by omega)]
      rw [if_pos this]
    · have : nO P p = 1 := by
        unfold nO
        rw [if_pos (by omega)]
        have : (nd P p 7).toNat = 0 ∨ (nd P p 7).toNat = 1 := by omega
        rcases this with z | z <;> rw [z] <;> rfl
      rw [if_pos this]
    · have ge2 : 2 ≤ nO P p := by
        unfold nO
        rw [if_pos (by omega)]
        have : (nd P p 7).toNat = 2 ∨ (nd P p 7).toNat = 3 ∨ (nd P p 7).toNat = 4 := by omega
        rcases this with z | z | z <;> rw [z] <;> decide
      have okc1 : okCh P T (0, p, t, 1, r, fill) := ⟨p0, p1, t0, t1, oL, of, Or.inl ⟨rfl, c2, he, Int.le_refl _, by simp only; omega⟩⟩
      exact m_choose B3 gr hf (by omega) (by omega) okc1 (fun h4 B4 F4 _ => go B4 (by simp; omega) F4 (by rw [if_neg (by omega)]))
  · -- a number
    have B22 : MBS h0 P T pp G (4 * (s.1 + 1) - 3) cs (s.1 + 1, s.2) h22 := by rw [k22]; exact B3.f
    have e37 : h22 637 t = nd T t 1 := by rw [k22, hup_ne (by decide)]; exact MT.1
    have e38 : h22 638 t = nd T t 5 := by rw [k22, hup_ne (by decide)]; exact MT.2.1
    have e30 : h22 630 (24 * pp + p) = nd P p 5 := by rw [k22, hup_ne (by decide), M.2.2.1, if_pos c2]
    rw [e37, e38, e30]
    have tt := a4.2.2.2 t t0 t1
    refine ⟨fun c3 => R0 h22 ⟨G, cs, B22, by omega, (kn c c2).2 (fun z => by rcases ot with u | u | u | u <;> omega)⟩, fun c3 => ⟨fun c4 => R0 h22 ⟨G, cs, B22, by omega, (kn c c2).2 (fun z => c4 (lc_eq.mpr z.2))⟩, fun c4 => ?_⟩⟩
    refine R1 h22 ⟨r, fill, cs, ⟨G, B22, by simp only; omega, by simp only; omega, ?_, fun k b0 b1 => by rw [k22, hup_ne (by decide)]; exact hf k b0 b1, of, oL⟩, (kn c c2).1 ⟨by rcases ot with u | u | u | u <;> omega, lc_eq.mp c4⟩⟩
    rw [k22, hup_at]
    exact gr.to (Int.le_refl _) (fun i _ _ => ⟨hup_ne (by decide), hup_ne (by decide), hup_ne (by decide)⟩)
  · -- a hole
    have B26 : MBS h0 P T pp G (4 * (s.1 + 1) - 3) cs (s.1 + 1, s.2) h26 := by rw [k26]; exact B3.f
    have gr26 : gl pp h26 G r (h26 608 66) := by
      rw [k26, hup_at]
      exact gr.to (Int.le_refl _) (fun i _ _ => ⟨hup_ne (by decide), hup_ne (by decide), hup_ne (by decide)⟩)
    have hf26 : ∀ k : Int, 0 ≤ k → k < 10 → h26 644 k = fill k := fun k b0 b1 => by rw [k26, hup_ne (by decide)]; exact hf k b0 b1
    obtain ⟨ko1, ko2, ko3, ko4⟩ := ko c c2
    refine m_holds (H.fr B26.1) p0 p1 t0 t1 c2 hf26 of (fun z => ⟨Or.inl rfl, R0 h26 ⟨G, cs, B26, by omega, ko1 z⟩⟩) (fun z z2 => ⟨Or.inr rfl, R1 h26 ⟨r, fill, cs, ⟨G, B26, by simp only; omega, by simp only; omega, gr26, hf26, of, oL⟩, ko2 z z2⟩⟩) (fun z z2 z3 h' k' => ⟨Or.inr rfl, R1 h' ⟨r, fup fill (nd P p 3) t, cs, ⟨G, ?_, by simp only; omega, by simp only; omega, ?_, fun k b0 b1 => ?_, okFl_up of t0 t1, oL⟩, ko3 z z2 z3⟩⟩) (fun z z2 z3 => ⟨cb_01 _, ?_⟩)
    · obtain ⟨F5, y51, y0, y60, y2, y3, y4, y5, y6⟩ := B26
      rw [k']
      exact ⟨F5.r (by decide), by rw [hup_ne (by decide)]; exact y51, y0, by rw [hup_ne (by decide)]; exact y60, y2.to (Int.le_refl _) (fun i _ _ => ⟨hup_ne (by decide), hup_ne (by decide), hup_ne (by decide)⟩) (fun a i x0 x1 _ _ => hup_ne (by omega)) (fun i _ _ => hup_ne (by decide)), fun i i0 i1 => by rw [hup_ne (by decide)]; exact y3 i i0 i1, y4.to (fun j j0 j1 => hup_ne (by decide)) (hup_r (by decide)), y5, y6⟩
    · rw [k', hup_ne (by decide)]
      exact gr26.to (Int.le_refl _) (fun i _ _ => ⟨hup_ne (by decide), hup_ne (by decide), hup_ne (by decide)⟩)
    · by_cases ck : k = nd P p 3
      · subst ck
        rw [k', hup_at, fup_at]
      · rw [k', hup_nj ck, fup_ne ck]
        exact hf26 k b0 b1
    · by_cases ca : alk T (fill (nd P p 3)) t
      · rw [cb_t ca]
        exact R1 h26 ⟨r, fill, cs, ⟨G, B26, by simp only; omega, by simp only; omega, gr26, hf26, of, oL⟩, (ko4 z z2 z3).1 ca⟩
      · rw [cb_f ca]
        exact R0 h26 ⟨G, cs, B26, by omega, (ko4 z z2 z3).2 ca⟩
  · -- below, this node alone
    have X := kb c c2
    rw [if_pos (by omega)] at X
    have q2 := p2 (Or.inl c2)
    refine v10_doGoal_286 ?_
    rw [w32_id (by omega) (by omega), show 24 * pp + p + 1 = 24 * pp + (p + 1) by omega, ← en (p + 1) (by omega)]
    refine m_goal2 B3.2.1 g0 (by omega) gr (fun h9 A9 L9 _ h10 k10 => ?_)
    refine fin (n := 1) B3 (by omega) rfl A9 (by decide) (by decide) L9 (fun e he => ?_) k10 X
    rcases List.mem_cons.mp he with rfl | z
    · exact Or.inr ⟨by simp only; omega, q2, t0, t1⟩
    · exact oL e z
  · have X := kb c c2
    rw [if_neg (by omega)] at X
    have q2 := p2 (Or.inl c2)
    have okc1 : okCh P T (1, p + 1, t, t + 1, r, fill) := ⟨by simp only; omega, q2, t0, t1, oL, of, Or.inr (Or.inl ⟨rfl, by simp only; omega, by simp only; omega⟩)⟩
    rw [show 24 * pp + p + 1 = 24 * pp + (p + 1) by omega]
    refine m_choose B3 gr hf (by omega) (by omega) okc1 (fun h4 B4 F4 _ => v10_doGoal_286 ?_)
    rw [w32_id (by omega) (by omega), show 24 * pp + p + 1 = 24 * pp + (p + 1) by omega, ← en (p + 1) (by omega)]
    refine m_goal2 B4.2.1 g0 (by omega) (gr.to (Int.le_refl _) (fun i _ _ => ⟨by rw [F4 641 (by decide) (by decide)], by rw [F4 642 (by decide) (by decide)], by rw [F4 643 (by decide) (by decide)]⟩)) (fun h9 A9 L9 _ h10 k10 => ?_)
    refine fin (n := 1) B4 (by simp; omega) (F4 644 (by decide) (by decide)) A9 (by decide) (by decide) L9 (fun e he => ?_) k10 X
    rcases List.mem_cons.mp he with rfl | z
    · exact Or.inr ⟨by simp only; omega, q2, t0, t1⟩
    · exact oL e z
end
