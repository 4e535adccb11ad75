/-! THE NET: marks that are alike -/
def mk (P R : NL) (i : Int) : Prop := nd P i 0 = nd R i 0 ∧ nd P i 1 = nd R i 1 ∧ nd P i 5 = nd R i 5 ∧ nd P i 6 = nd R i 6 ∧ nd P i 4 = nd R i 4 ∧ nd P i 2 = nd R i 2 ∧ ag P i = ag R i
noncomputable def lkF (P R : NL) : Nat → Int → Int
  | 0, y => y
  | m + 1, y => @ite _ (mk P R y) (Classical.propDecidable _) (lkF P R m (y + 1)) y
noncomputable def lk (P R : NL) : Int := lkF P R (min (ln P) (ln R)).toNat 0
theorem mk_s {P R : NL} {i : Int} : mk P R i ↔ mk R P i := ⟨fun ⟨a, b, c, d, e, f, g⟩ => ⟨a.symm, b.symm, c.symm, d.symm, e.symm, f.symm, g.symm⟩, fun ⟨a, b, c, d, e, f, g⟩ => ⟨a.symm, b.symm, c.symm, d.symm, e.symm, f.symm, g.symm⟩⟩
theorem lkF_s {P R : NL} : ∀ (m : Nat) (y : Int), lkF P R m y = lkF R P m y
  | 0, _ => rfl
  | m + 1, y => by
    unfold lkF
    rw [lkF_s m (y + 1)]
    by_cases c : mk P R y
    · rw [if_pos c, if_pos (mk_s.mp c)]
    · rw [if_neg c, if_neg (fun z => c (mk_s.mpr z))]
theorem lk_s {P R : NL} : lk P R = lk R P := by
  unfold lk
  rw [lkF_s, show min (ln P) (ln R) = min (ln R) (ln P) by omega]
theorem lkF_b {P R : NL} : ∀ (m : Nat) (y : Int), y ≤ lkF P R m y ∧ lkF P R m y ≤ y + m
  | 0, y => ⟨Int.le_refl _, by simp [lkF]⟩
  | m + 1, y => by
    have := lkF_b (P := P) (R := R) m (y + 1)
    unfold lkF
    split <;> omega
theorem lk_b {P R : NL} : 0 ≤ lk P R ∧ lk P R ≤ ln P ∧ lk P R ≤ ln R := by
  have := lkF_b (P := P) (R := R) (min (ln P) (ln R)).toNat 0
  have : 0 ≤ ln P := by unfold ln; omega
  have : 0 ≤ ln R := by unfold ln; omega
  unfold lk
  omega
section
variable {g : Gl} {d : Nat} {h : Hp} {E : Ev} {P : Ps} {L R : NL} {Q : Int → Hp → Prop}
theorem f_isLike {p q : Int} (p0 : 0 ≤ p) (p1 : p < 40) (q0 : 0 ≤ q) (q1 : q < 40) (cp : cPt (35 + 14 * p) L h) (cq : cPt (35 + 14 * q) R h) (oL : okL E L) (oR : okL E R) (lp : ln L ≤ 24) (lq : ln R ≤ 24) {i : Int} (i0 : 0 ≤ i) (i1 : i < ln L) (i2 : i < ln R) (k : Q (cb (mk L R i)) h) : Good g (d + 1) i4_isLikeMark [LR 4 605, LR 6 (35 + 14 * p), LR 6 (35 + 14 * q), LI i] S0 h S0 (retI Q) := by
  obtain ⟨n0, n1, n2, n3, n4, n5, n6, n7, n8, n9⟩ := NDs.pat (g := g) p0 p1
  obtain ⟨r0, r1, r2, r3, r4, r5, r6, r7, r8, r9⟩ := NDs.pat (g := g) q0 q1
  have e1 : lnn g (35 + 14 * p + 11) = 24 := lnn_p (k := 11) p0 p1 (by decide) (by decide) (by omega) rfl
  have e2 : lnn g (35 + 14 * q + 11) = 24 := lnn_p (k := 11) q0 q1 (by decide) (by decide) (by omega) rfl
  obtain ⟨c1, c2, c3, c4, c5, c6, c7⟩ := cp.1.2 i i0 i1
  obtain ⟨b1, b2, b3, b4, b5, b6, b7⟩ := cq.1.2 i i0 i2
  have c8 := cp.2.2.2.1 i i0 i1
  have b8 := cq.2.2.2.1 i i0 i2
  have no : ¬ mk L R i → Q 0 h := fun z => by rwa [cb_f z] at k
  unfold mk at no
  refine g4_isLikeMark (fun _ _ _ => v4_isLikeMark (by omega) (by omega) ?_)
  rw [c1, b1, c2, b2, c3, b3, c5, b5, c6, b6, c7, b7, c8, b8, n1, n2, n3, n5, n6, n7, r1, r2, r3, r5, r6, r7, e1, e2]
  simp only [lc_eq]
  refine ⟨by omega, i0, by omega, by omega, by omega, fun z => no (fun w => z w.1), fun z1 => ⟨by omega, by omega, by omega, by omega, fun z => no (fun w => z w.2.1), fun z2 => ⟨by omega, by omega, by omega, by omega, fun z => no (fun w => z w.2.2.1), fun z3 => ⟨by omega, by omega, by omega, by omega, fun z => no (fun w => z w.2.2.2.1), fun z4 => ⟨by omega, by omega, fun _ => ⟨by omega, by omega, fun _ => ⟨fun z => no (fun w => z w.2.2.2.2.1), fun z5 => ⟨by omega, by omega, by omega, by omega, fun z => no (fun w => z w.2.2.2.2.2.1), fun z6 => ⟨by omega, by omega, fun z => no (fun w => z w.2.2.2.2.2.2), fun z7 => ?_⟩⟩⟩⟩⟩⟩⟩⟩⟩
  rwa [cb_t ⟨z1, z2, z3, z4, z5, z6, z7⟩] at k
theorem f_like {p q : Int} (p0 : 0 ≤ p) (p1 : p < 40) (q0 : 0 ≤ q) (q1 : q < 40) (cp : cPt (35 + 14 * p) L h) (cq : cPt (35 + 14 * q) R h) (oL : okL E L) (oR : okL E R) (lp : ln L ≤ 24) (lq : ln R ≤ 24) (k : Q (lk L R) h) : Good g (d + 2) i4_likeMarks [LR 4 605, LR 6 (35 + 14 * p), LR 6 (35 + 14 * q)] S0 h S0 (retI Q) := by
  refine g4_likeMarks (fun _ _ => v4_likeMarks (by omega) (by omega) ?_)
  rw [cp.1.1, cq.1.1]
  have l0 : 0 ≤ ln L := by unfold ln; omega
  have l1 : 0 ≤ ln R := by unfold ln; omega
  have lp' : ∀ (m : Nat) (y : Int), 0 ≤ y → y + m = min (ln L) (ln R) → Q (lkF L R m y) h → L0 g (d + 1) m4_likeMarks (retI Q) 21 [some (LR 4 605), some (LR 6 (35 + 14 * p)), some (LR 6 (35 + 14 * q)), some (LI (min (ln L) (ln R))), some (LI y)] h := by
    intro m
    induction m with
    | zero =>
      intro y y0 hy k
      exact v4_likeMarks_21 (by omega) (by omega) ⟨fun _ => k, fun z => absurd (by omega) z⟩
    | succ m ih =>
      intro y y0 hy k
      unfold lkF at k
      refine v4_likeMarks_21 (by omega) (by omega) ⟨fun z => absurd z (by omega), fun _ => f_isLike p0 p1 q0 q1 cp cq oL oR lp lq y0 (by omega) (by omega) (bz (fun c => by rwa [if_neg c] at k) (fun c => ?_))⟩
      rw [if_pos c] at k
      rw [w32_id (by omega) (by omega)]
      exact ih (y + 1) (by omega) (by omega) k
  exact lp' _ 0 (by decide) (by omega) k
noncomputable def shrd (P : Ps) (x y : Int) : Int := @ite _ (¬ ((0 ≤ x ∧ x < 40 ∧ (P x).1 = 1) ∧ 0 ≤ y ∧ y < 40 ∧ (P y).1 = 1)) (Classical.propDecidable _) (-1001) (@ite _ (inN P x ∧ inN P y) (Classical.propDecidable _) (lk (P x).2.2 (P y).2.2) (-1003))
theorem x_shared (op : okP E P) (cp : cPS P h) {x y : Int} (k : Q (shrd P x y) h) : Good g (d + 3) i9_shared [LR 9 4, LI x, LI y] S0 h S0 (retI Q) := by
  unfold shrd at k
  refine g9_shared (fun _ _ => v9_shared (x_patternOf (E := E) (d := d + 1) op cp (fun c => x_patternOf (E := E) (d := d + 1) op cp (fun c2 => ⟨fun _ => ?_, fun z => absurd rfl z⟩) (fun _ _ _ => ⟨fun _ => ?_, fun z => absurd rfl z⟩)) (fun x0 x1 x2 => x_patternOf (E := E) (d := d + 1) op cp (fun c2 => ⟨fun z => absurd z (by omega), fun _ => ⟨fun z => absurd rfl z, fun _ => ?_⟩⟩) (fun y0 y1 y2 => ⟨fun z => absurd z (by omega), fun _ => ⟨fun _ => ?_, fun z => absurd z (by omega)⟩⟩))))
  · rwa [if_pos (fun z => c z.1)] at k
  · rwa [if_pos (fun z => c z.1)] at k
  · rwa [if_pos (fun z => c2 z.2)] at k
  · rw [if_neg (not_not_intro ⟨⟨x0, x1, x2⟩, y0, y1, y2⟩)] at k
    refine x_isInNet (E := E) (d := d + 1) op cp x0 x1 (bz (fun c => by rwa [if_neg (fun z => c z.1)] at k) (fun c => x_isInNet (E := E) (d := d + 1) op cp y0 y1 (bn (fun c2 => ?_) (fun c2 => by rwa [if_neg (fun z => c2 z.2)] at k))))
    rw [if_pos ⟨c, c2⟩] at k
    have ox := op x x0 x1
    have oy := op y y0 y1
    exact f_like x0 x1 y0 y1 ((cp x x0 x1).2.2 x2).2 ((cp y y0 y1).2.2 y2).2 (ox.2.2 x2).1 (oy.2.2 y2).1 ox.2.1 oy.2.1 k
/-- the model: which hole first has a name -/
theorem m_againOf {p i : Int} (p0 : 0 ≤ p) (p1 : p < 40) (mp : mPt p L h) (ol : okL E L) (l9 : ln L ≤ 24) (i0 : 0 ≤ i) (i1 : i < ln L) (k : Q (ag L i) h) : Good g (d + 1) i10_againOf [LR 10 608, LI p, LI i] S0 h S0 (retI Q) := by
  unfold ag at k
  have lp : ∀ (m : Nat) (y c : Int), 0 ≤ y → y + m = i → 0 ≤ c → c ≤ y → Q (if nd L i 3 = -1 then -1 else agL L i m y c) h → L0 g d m10_againOf (retI Q) 5 [some (LR 10 608), some (LI p), some (LI i), some (LI c), some (LI y), none] h := by
    intro m
    induction m with
    | zero =>
      intro y c y0 hy c0 cy k
      refine v10_againOf_5 ⟨fun _ => ?_, fun z => absurd (by omega) z⟩
      unfold agL at k
      split at k <;> exact k
    | succ m ih =>
      intro y c y0 hy c0 cy k
      have M := mp.2 y y0 (by omega)
      have Mi := mp.2 i i0 i1
      have on := ol y y0 (by omega)
      have oi := ol i i0 i1
      refine v10_againOf_5 ⟨fun z => absurd z (by omega), fun _ => ?_⟩
      rw [w32_id (x := 24 * p) (by omega) (by omega), w32_id (x := 24 * p + y) (by omega) (by omega), w32_id (x := 24 * p + i) (by omega) (by omega), w32_id (x := y + 1) (by omega) (by omega), w32_id (x := c + 1) (by omega) (by omega), M.1, M.2.2.2.1, Mi.2.2.2.1]
      unfold agL at k
      have oi3 : -1 ≤ nd L i 3 := by rcases oi with o | o | o | o <;> omega
      refine ⟨by omega, by omega, fun z => ?_, fun z => ⟨fun z2 => ?_, fun z2 => ⟨by omega, by omega, fun z3 => ?_, fun z3 => ?_⟩⟩⟩
      · refine ih (y + 1) c (by omega) (by omega) c0 (by omega) ?_
        have y3 : nd L y 3 = -1 := by rcases on with o | o | o | o <;> omega
        by_cases ci : nd L i 3 = -1
        · rw [if_pos ci] at k ⊢; exact k
        · rw [if_neg ci] at k ⊢
          rw [if_neg (by omega), if_neg z, Int.add_zero] at k
          exact k
      · refine ih (y + 1) (c + 1) (by omega) (by omega) (by omega) (by omega) ?_
        by_cases ci : nd L i 3 = -1
        · rw [if_pos ci] at k ⊢; exact k
        · rw [if_neg ci] at k ⊢
          rw [if_neg (by omega), if_pos z] at k
          exact k
      · refine ih (y + 1) (c + 1) (by omega) (by omega) (by omega) (by omega) ?_
        by_cases ci : nd L i 3 = -1
        · rw [if_pos ci] at k ⊢; exact k
        · rw [if_neg ci] at k ⊢
          rw [if_neg z3, if_pos z] at k
          exact k
      · rw [if_neg (by omega), if_pos z3] at k
        exact k
  exact g10_againOf (fun _ _ => v10_againOf (lp i.toNat 0 0 (by omega) (by omega) (by omega) (by omega) k))
theorem m_areLike {p q : Int} (p0 : 0 ≤ p) (p1 : p < 40) (q0 : 0 ≤ q) (q1 : q < 40) (mp : mPt p L h) (mq : mPt q R h) (oL : okL E L) (oR : okL E R) (lp : ln L ≤ 24) (lq : ln R ≤ 24) {i : Int} (i0 : 0 ≤ i) (i1 : i < ln L) (i2 : i < ln R) (k : Q (cb (mk L R i)) h) : Good g (d + 2) i10_areMarksLike [LR 10 608, LI p, LI q, LI i] S0 h S0 (retI Q) := by
  have M := mp.2 i i0 i1
  have N := mq.2 i i0 i2
  have o1 := oL i i0 i1
  have o2 := oR i i0 i2
  have no : ¬ mk L R i → Q 0 h := fun z => by rwa [cb_f z] at k
  have ys : mk L R i → Q 1 h := fun z => by rwa [cb_t z] at k
  have agn : ∀ {X : NL}, nd X i 3 = -1 → ag X i = -1 := fun e => by unfold ag; rw [if_pos e]
  refine g10_areMarksLike (fun _ _ _ => v10_areMarksLike ?_)
  rw [w32_id (x := 24 * p) (by omega) (by omega), w32_id (x := 24 * p + i) (by omega) (by omega), w32_id (x := 24 * q) (by omega) (by omega), w32_id (x := 24 * q + i) (by omega) (by omega), M.1, N.1, M.2.1, N.2.1, M.2.2.1, N.2.2.1, M.2.2.2.2.2.1, N.2.2.2.2.2.1]
  simp only [lc_eq]
  have last : nd L i 0 = nd R i 0 → nd L i 1 = nd R i 1 → nd L i 5 = nd R i 5 → nd L i 6 = nd R i 6 → nd L i 4 = nd R i 4 → L0 g (d + 1) m10_areMarksLike (retI Q) 166 [some (LR 10 608), some (LI p), some (LI q), some (LI i), some (LI (24 * p + i)), some (LI (24 * q + i)), none] h := fun e0 e1 e5 e6 e4 => by
    refine v10_areMarksLike_166 ?_
    rw [M.2.2.2.2.1, N.2.2.2.2.1]
    refine ⟨by omega, by omega, by omega, by omega, fun z => no (fun w => z w.2.2.2.2.2.1), fun z => m_againOf p0 p1 mp oL lp i0 i1 (m_againOf q0 q1 mq oR lq i0 i2 ⟨fun z2 => no (fun w => z2 w.2.2.2.2.2.2), fun z2 => ys ⟨e0, e1, e5, e6, e4, z, z2⟩⟩)⟩
  refine ⟨by omega, by omega, by omega, by omega, fun z => ⟨fun z1 => ⟨fun z2 => fun _ _ => ⟨fun z3 => v10_areMarksLike_170 (no (fun w => z3 w.2.2.2.2.1)), fun z3 => ⟨fun z4 => ?_, fun z4 => ?_⟩⟩, fun z2 => ⟨fun z3 => no (fun w => z3 ?_), fun z3 => ys ?_⟩⟩, fun z1 => ⟨fun z3 => no (fun w => z3 w.2.1), fun z3 => ys ?_⟩⟩, fun z => no (fun w => z w.1)⟩
  · rcases o1 with a | a | a | a <;> rcases o2 with b | b | b | b <;> first | omega | exact last z (by omega) (by omega) (by omega) z3
  · have y1 : nd L i 4 = 1 := by rcases o1 with a | a | a | a <;> omega
    have y2 : nd R i 4 = 1 := by omega
    rw [(M.2.2.2.2.2.2.1 y1).1, (M.2.2.2.2.2.2.1 y1).2, (N.2.2.2.2.2.2.1 y2).1, (N.2.2.2.2.2.2.1 y2).2]
    refine ⟨fun z5 => v10_areMarksLike_170 (no (fun w => z5 w.2.2.1)), fun z5 => ⟨fun z6 => v10_areMarksLike_170 (no (fun w => z6 w.2.2.2.1)), fun z6 => ?_⟩⟩
    exact last z (by rcases o1 with a | a | a | a <;> rcases o2 with b | b | b | b <;> omega) z5 z6 z3
  · rw [if_pos z2, if_pos (by omega)]; exact w.2.2.1
  · rw [if_pos z2, if_pos (by omega)] at z3
    have a3 : nd L i 3 = -1 := by rcases o1 with a | a | a | a <;> omega
    have b3 : nd R i 3 = -1 := by rcases o2 with a | a | a | a <;> omega
    exact ⟨z, by rcases o1 with a | a | a | a <;> rcases o2 with b | b | b | b <;> omega, z3, by rcases o1 with a | a | a | a <;> rcases o2 with b | b | b | b <;> omega, by rcases o1 with a | a | a | a <;> rcases o2 with b | b | b | b <;> omega, by rcases o1 with a | a | a | a <;> rcases o2 with b | b | b | b <;> omega, by rw [agn a3, agn b3]⟩
  · have a3 : nd L i 3 = -1 := by rcases o1 with a | a | a | a <;> omega
    have b3 : nd R i 3 = -1 := by rcases o2 with a | a | a | a <;> omega
    exact ⟨z, z3, by rcases o1 with a | a | a | a <;> rcases o2 with b | b | b | b <;> omega, by rcases o1 with a | a | a | a <;> rcases o2 with b | b | b | b <;> omega, by rcases o1 with a | a | a | a <;> rcases o2 with b | b | b | b <;> omega, by rcases o1 with a | a | a | a <;> rcases o2 with b | b | b | b <;> omega, by rw [agn a3, agn b3]⟩
theorem m_common {p q : Int} (p0 : 0 ≤ p) (p1 : p < 40) (q0 : 0 ≤ q) (q1 : q < 40) (mp : mPt p L h) (mq : mPt q R h) (oL : okL E L) (oR : okL E R) (lp : ln L ≤ 24) (lq : ln R ≤ 24) (k : Q (lk L R) h) : Good g (d + 3) i10_common [LR 10 608, LI p, LI q] S0 h S0 (retI Q) := by
  have l0 : 0 ≤ ln L := by unfold ln; omega
  have l1 : 0 ≤ ln R := by unfold ln; omega
  have lp' : ∀ (m : Nat) (y : Int), 0 ≤ y → y + m = min (ln L) (ln R) → Q (lkF L R m y) h → L0 g (d + 2) m10_common (retI Q) 2 [some (LR 10 608), some (LI p), some (LI q), some (LI y)] h := by
    intro m
    induction m with
    | zero =>
      intro y y0 hy k
      refine v10_common_2 ?_
      rw [mp.1, mq.1]
      exact ⟨p0, p1, fun _ => k, fun z => ⟨q0, q1, fun _ => k, fun z2 => absurd (by omega) z2⟩⟩
    | succ m ih =>
      intro y y0 hy k
      unfold lkF at k
      refine v10_common_2 ?_
      rw [mp.1, mq.1]
      refine ⟨p0, p1, fun z => absurd z (by omega), fun _ => ⟨q0, q1, fun z => absurd z (by omega), fun _ => m_areLike p0 p1 q0 q1 mp mq oL oR lp lq y0 (by omega) (by omega) (bz (fun c => by rwa [if_neg c] at k) (fun c => ?_))⟩⟩
      rw [if_pos c] at k
      rw [w32_id (by omega) (by omega)]
      exact ih (y + 1) (by omega) (by omega) k
  exact g10_common (fun _ _ => v10_common (lp' _ 0 (by decide) (by omega) k))
theorem y_shared (ok : okE E) (me : mE E h) (op : okP E P) (mp : mPS P h) {x y : Int} (k : Q (shrd P x y) h) : Good g (d + 4) i10_shared [LR 10 608, LI x, LI y] S0 h S0 (retI Q) := by
  unfold shrd at k
  refine g10_shared (fun _ _ => v10_shared (y_noPattern (E := E) (d := d + 1) op mp (bn (fun c => by rwa [if_pos (fun z => c z.1)] at k) (fun c => y_noPattern (E := E) (d := d + 1) op mp (bz (fun c2 => ?_) (fun c2 => by rwa [if_pos (fun z => c2 z.2)] at k))))))
  have c := Classical.not_not.mp c
  have c2 := Classical.not_not.mp c2
  rw [if_neg (not_not_intro ⟨c, c2⟩)] at k
  refine y_inNet (d := d + 1) ok me op mp c.1 c.2.1 (bz (fun z => by rwa [if_neg (fun w => z w.1)] at k) (fun z => y_inNet (d := d + 1) ok me op mp c2.1 c2.2.1 (bn (fun z2 => ?_) (fun z2 => by rwa [if_neg (fun w => z2 w.2)] at k))))
  rw [if_pos ⟨z, z2⟩] at k
  have ox := op x c.1 c.2.1
  have oy := op y c2.1 c2.2.1
  exact m_common c.1 c.2.1 c2.1 c2.2.1 ((mp x c.1 c.2.1).2 c.2.2).2 ((mp y c2.1 c2.2.1).2 c2.2.2).2 (ox.2.2 c.2.2).1 (oy.2.2 c2.2.2).1 ox.2.1 oy.2.1 k
end
