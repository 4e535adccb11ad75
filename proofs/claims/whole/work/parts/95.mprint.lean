/-! PRINTING, the model; the calls on both sides -/
def mFrO (h h' : Hp) : Prop := (∀ a : Int, a ≠ 608 → a ≠ 660 → a ≠ 661 → a ≠ 662 → h' a = h a) ∧ ∀ j : Int, j ≠ 76 → j ≠ 79 → h' 608 j = h 608 j
theorem mFrO.rf {h : Hp} : mFrO h h := ⟨fun _ _ _ _ _ => rfl, fun _ _ _ => rfl⟩
theorem mFrO.tr {h h2 h3 : Hp} (a : mFrO h h2) (b : mFrO h2 h3) : mFrO h h3 := ⟨fun x x1 x2 x3 x4 => by rw [b.1 x x1 x2 x3 x4]; exact a.1 x x1 x2 x3 x4, fun j j1 j2 => by rw [b.2 j j1 j2]; exact a.2 j j1 j2⟩
theorem mFrO.n {h h' : Hp} (a : mFrN h h') : mFrO h h' := ⟨fun x x1 x2 _ _ => a.1 x x1 x2, fun j j1 _ => a.2 j j1⟩
def mSt : List Nat → Hp → Prop
  | [], _ => True
  | k :: s, h => (h 662 (s.length : Nat) = (k : Nat) ∧ 1 ≤ k ∧ k ≤ 100) ∧ mSt s h
theorem mSt.to : ∀ {st : List Nat} {h h' : Hp}, mSt st h → (∀ j : Int, 0 ≤ j → j < (st.length : Nat) → h' 662 j = h 662 j) → mSt st h'
  | [], _, _, _, _ => trivial
  | k :: s, h, h', H, e => by
    simp only [List.length_cons] at e
    refine ⟨⟨?_, H.1.2⟩, mSt.to H.2 (fun j j0 j1 => e j j0 (by omega))⟩
    rw [e _ (by omega) (by omega)]
    exact H.1.1
def mPr (W : Tx) (st : List Nat) (h : Hp) : Prop := mTx W h ∧ h 608 79 = (st.length : Nat) ∧ mSt st h
section
variable {g : Gl} {d : Nat} {E : Ev} {L : NL} {Q : Hp → Prop}
/-- a text grew, the rows of what is open are as they were -/
theorem mPr.gw {W W' : Tx} {st : List Nat} {h h' : Hp} (H : mPr W st h) (T : mTx W' h') (F : mFrN h h') : mPr W' st h' := ⟨T, by rw [F.2 79 (by decide)]; exact H.2.1, H.2.2.to (fun j _ _ => by rw [F.1 662 (by decide) (by decide)])⟩
theorem m_shut : ∀ (st : List Nat) (W : Tx) (h : Hp), mPr W st h → st.length ≤ 125 → W.length + st.length + 1 < 3000 → (∀ h' : Hp, mPr (W ++ (shut st).1) (shut st).2 h' → mFrO h h' → Q h') → L0 g (d + 1) m10_shutAll (retV Q) 2 [some (LR 10 608), some (LI 1)] h
  | [], W, h, H, l1, l2, q => v10_shutAll_2 ⟨fun z => absurd z (by decide), fun _ => ⟨fun _ => q h (by rw [show (shut []).1 = ([] : Tx) from rfl, List.append_nil]; exact H) mFrO.rf, fun z => absurd (by rw [H.2.1]; exact Int.le_refl 0) z⟩⟩
  | k :: s, W, h, H, l1, l2, q => by
    obtain ⟨H1, H2, ⟨H3, H4, H5⟩, H6⟩ := H
    simp only [List.length_cons] at H2 l1 l2
    have e1 : w32 (((s.length + 1 : Nat) : Int) - 1) = (s.length : Nat) := by rw [w32_id (by omega) (by omega)]; omega
    refine v10_shutAll_2 ⟨fun z => absurd z (by decide), fun _ => ?_⟩
    rw [H2, e1, H3, w32_id (x := ((k : Nat) : Int) - 1) (by omega) (by omega)]
    refine ⟨fun z => absurd z (by omega), fun _ => ⟨by omega, by omega, fun h3 k3 => ?_⟩⟩
    have e3 : h3 608 79 = ((s.length + 1 : Nat) : Int) := by rw [k3, hup_r (by decide)]; exact H2
    have v3 : h3 662 (s.length : Nat) = ((k : Nat) : Int) - 1 := by rw [k3, hup_at]
    rw [e3, e1, v3]
    have T3 : mTx W h3 := mO.to H1 (by rw [k3, hup_r (by decide)]) (by rw [k3, hup_r (by decide)])
    have F3 : mFrO h h3 := ⟨fun a x1 x2 x3 x4 => by rw [k3, hup_r x4], fun j _ _ => by rw [k3, hup_r (by decide)]⟩
    have S3 : mSt s h3 := H6.to (fun j j0 j1 => by rw [k3, hup_nj (by omega)])
    unfold shut at q
    refine ⟨by omega, by omega, fun z => ?_, fun z => ?_⟩
    · rw [if_pos (by omega)] at q
      refine m_put T3 (by omega) (by decide) (by decide) (fun h5 T5 F5 G5 => fun h7 k7 => ?_)
      rw [G5 79 (by decide), e3, e1] at k7
      have F7 : mFrO h h7 := (F3.tr (mFrO.n ⟨F5, G5⟩)).tr ⟨fun a x1 x2 x3 x4 => by rw [k7, hup_r x1], fun j _ j2 => by rw [k7, hup_nj j2]⟩
      refine m_shut s _ h7 ⟨mO.to T5 (by rw [k7, hup_nj (by decide)]) (by rw [k7, hup_r (by decide)]), by rw [k7, hup_at], S3.to (fun j j0 j1 => by rw [k7, hup_r (by decide), F5 662 (by decide) (by decide)])⟩ (by omega) (by rw [len1]; omega) (fun h8 H8 F8 => q h8 ?_ (F7.tr F8))
      simp only [List.append_assoc, List.cons_append, List.nil_append] at H8 ⊢
      exact H8
    · rw [if_neg (by omega)] at q
      refine m_put T3 (by omega) (by decide) (by decide) (fun h5 T5 F5 G5 => v10_shutAll_2 ⟨fun _ => q h5 ⟨T5, ?_, ⟨?_, by omega, by omega⟩, S3.to (fun j j0 j1 => by rw [F5 662 (by decide) (by decide)])⟩ (F3.tr (mFrO.n ⟨F5, G5⟩)), fun z => absurd rfl z⟩)
      · rw [G5 79 (by decide), e3, List.length_cons]
      · rw [F5 662 (by decide) (by decide), v3]
        omega
theorem m_shutAll {st : List Nat} {W : Tx} {h : Hp} (H : mPr W st h) (l1 : st.length ≤ 125) (l2 : W.length + st.length + 1 < 3000) (q : ∀ h' : Hp, mPr (W ++ (shut st).1) (shut st).2 h' → mFrO h h' → Q h') : Good g (d + 2) i10_shutAll [LR 10 608] S0 h S0 (retV Q) := g10_shutAll (v10_shutAll (m_shut st W h H l1 l2 q))
/-- what stands behind a node's own text -/
def bhT (x : Nd) (st : List Nat) : Tx := if 0 < x 7 then (if x 0 = 0 then [40] else []) else (shut st).1
def bhS (x : Nd) (st : List Nat) : List Nat := if 0 < x 7 then (if x 0 = 0 then (x 7).toNat :: st else st) else (shut st).2
theorem prF_s {m : Nat} {i : Int} {st : List Nat} : prF L (m + 1) i st = nt (nd L i) ++ (bhT (nd L i) st ++ prF L m (i + 1) (bhS (nd L i) st)) := by
  unfold bhT bhS
  rw [prF]
  by_cases c : 0 < nd L i 7
  · rw [if_pos c, if_pos c, if_pos c]
    by_cases c2 : nd L i 0 = 0
    · rw [if_pos c2, if_pos c2, if_pos c2]; rfl
    · rw [if_neg c2, if_neg c2, if_neg c2]; rfl
  · rw [if_neg c, if_neg c, if_neg c]
theorem bh_l (x : Nd) (st : List Nat) : (bhT x st).length + (bhS x st).length ≤ st.length + 2 ∧ (bhS x st).length ≤ st.length + 1 := by
  have := shut_l st
  unfold bhT bhS
  split
  · split
    · simp only [List.length_cons, List.length_nil]; omega
    · simp only [List.length_nil]; omega
  · omega
theorem m_head (ok : okE E) {h : Hp} (me : mE E h) {x : Nd} (on : okN E x) (s0 : x 0 = 0) {W : Tx} {st : List Nat} (H : mPr W st h) (l1 : st.length ≤ 120) (l2 : W.length + st.length + 10 < 3000) (q : ∀ h' : Hp, mPr (W ++ nt x ++ bhT x st) (bhS x st) h' → mFrO h h' → Q h') : Good g (d + 3) i10_putHead [LR 10 608, LI (x 1)] S0 h S0 (retV Q) := by
  have o4 := ok.2.2.2.1
  have p7 := on.p7 ok
  have oo : 0 ≤ x 1 ∧ x 1 < E 0 1 ∧ x 7 = E 3 (x 1) := by
    rcases on with o | o | o | o
    · exact ⟨o.2.1, o.2.2.1, o.2.2.2.2.2.2.2.2.1⟩
    all_goals omega
  have en : nt x = [97 + x 1] := by unfold nt; rw [if_pos s0]
  rw [en] at q
  unfold bhT bhS at q
  have e11 : h 611 (x 1) = x 7 := by rw [(me.2.2.2 _ oo.1 oo.2.1).2.1, oo.2.2]
  refine g10_putHead (fun _ => v10_putHead ?_)
  rw [w32_id (by omega) (by omega)]
  refine m_put (d := d + 1) H.1 (by omega) (by omega) (by omega) (fun h1 T1 F1 G1 => ⟨oo.1, by omega, ?_⟩)
  have H1 := H.gw T1 ⟨F1, G1⟩
  rw [F1 611 (by decide) (by decide), e11]
  refine ⟨fun z => ?_, fun z => ?_⟩
  · rw [if_neg (by omega), if_neg (by omega)] at q
    exact m_shutAll (d := d) H1 (by omega) (by rw [len1]; omega) (fun h2 H2 F2 => q h2 H2 ((mFrO.n ⟨F1, G1⟩).tr F2))
  · rw [if_pos (show 0 < x 7 by omega), if_pos s0, if_pos (show 0 < x 7 by omega), if_pos s0] at q
    refine m_put (d := d + 1) T1 (by rw [len1]; omega) (by decide) (by decide) (fun h6 T6 F6 G6 => ?_)
    have H6 := H1.gw T6 ⟨F6, G6⟩
    rw [H6.2.1]
    refine ⟨by omega, by omega, fun h8 k8 => ?_⟩
    have e8 : h8 608 79 = (st.length : Nat) := by rw [k8, hup_r (by decide)]; exact H6.2.1
    rw [e8]
    refine ⟨by omega, by omega, fun h9 k9 h10 k10 => ?_⟩
    have e811 : h8 611 (x 1) = x 7 := by rw [k8, hup_r (by decide), F6 611 (by decide) (by decide), F1 611 (by decide) (by decide), e11]
    rw [e811] at k9
    have e9 : h9 608 79 = (st.length : Nat) := by rw [k9, hup_r (by decide)]; exact e8
    rw [e9, w32_id (by omega) (by omega)] at k10
    refine q h10 ⟨mO.to T6 (by rw [k10, hup_nj (by decide), k9, hup_r (by decide), k8, hup_r (by decide)]) (by rw [k10, hup_r (by decide), k9, hup_r (by decide), k8, hup_r (by decide)]), by rw [k10, hup_at, List.length_cons]; omega, ⟨by rw [k10, hup_r (by decide), k9, hup_at]; omega, by omega, by omega⟩, H6.2.2.to (fun j j0 j1 => by rw [k10, hup_r (by decide), k9, hup_nj (by omega), k8, hup_r (by decide)])⟩ (((mFrO.n ⟨F1, G1⟩).tr (mFrO.n ⟨F6, G6⟩)).tr ⟨fun a x1 x2 x3 x4 => by rw [k10, hup_r x1, k9, hup_r x4, k8, hup_r x3], fun j _ j2 => by rw [k10, hup_nj j2, k9, hup_r (by decide), k8, hup_r (by decide)]⟩)
theorem m_hol2 (ok : okE E) {h : Hp} {p : Int} (p0 : 0 ≤ p) (p1 : p < 40) (mp : mPt p L h) (lp : ln L ≤ 24) {i : Int} (i0 : 0 ≤ i) (i1 : i < ln L) (on : okN E (nd L i)) (s2 : nd L i 0 = 2) {W : Tx} {st : List Nat} (H : mPr W st h) (l1 : st.length ≤ 120) (l2 : W.length + st.length + 70 < 3000) (q : ∀ h' : Hp, mPr (W ++ nt (nd L i) ++ bhT (nd L i) st) (bhS (nd L i) st) h' → mFrO h h' → Q h') : Good g (d + 3) i10_putHole [LR 10 608, LI (24 * p + i)] S0 h S0 (retV Q) := by
  have o2 := ok.2.1
  have on' : 0 ≤ nd L i 2 ∧ nd L i 2 < E 0 0 ∧ -1 ≤ nd L i 3 ∧ nd L i 3 < 10 ∧ (nd L i 4 = 0 ∨ nd L i 4 = 1) ∧ -1000000000000000000 < nd L i 5 ∧ nd L i 5 < 1000000000000000000 ∧ -1000000000000000000 < nd L i 6 ∧ nd L i 6 < 1000000000000000000 ∧ nd L i 7 = 0 := by rcases on with o | o | o | o <;> omega
  have ln1 := nmT_l (nd L i)
  have ln2 := kdT_l (nd L i)
  obtain ⟨a0, a1, a2, a3, a4, a5, a6, a7⟩ := mp.2 i i0 i1
  unfold bhT bhS at q
  rw [if_neg (by omega), if_neg (by omega)] at q
  unfold nt at q
  rw [if_neg (by omega), if_neg (by omega), if_pos s2] at q
  have st3 : ∀ (W3 : Tx) (h3 : Hp), W3.length + st.length + 44 < 3000 → mTx W3 h3 → mFrN h h3 → W3 ++ spT (nd L i) = W ++ 63 :: (nmT (nd L i) ++ (kdT (nd L i) ++ spT (nd L i))) → L0 g (d + 2) m10_putHole (retV Q) 54 [some (LR 10 608), some (LI (24 * p + i))] h3 := by
    intro W3 h3 l3 T3 F3 e3
    rw [← e3] at q
    unfold spT at q
    refine v10_putHole_54 ?_
    rw [F3.1 633 (by decide) (by decide), a5]
    refine ⟨by omega, by omega, fun _ => ⟨fun z => ?_, fun z => m_put (d := d + 1) T3 (by omega) (by decide) (by decide) (fun h4 T4 F4 G4 => ?_)⟩⟩
    · rw [if_pos z, List.append_nil] at q
      exact m_shutAll (H.gw T3 F3) (by omega) (by omega) (fun h4 H4 F4 => q h4 H4 ((mFrO.n F3).tr F4))
    · rw [if_neg z] at q
      have l5 := numT_l (v := nd L i 5)
      have l6 := numT_l (v := nd L i 6)
      have F4 := F3.tr ⟨F4, G4⟩
      rw [F4.1 634 (by decide) (by decide), (a6 (by omega)).1]
      refine m_num on'.2.2.2.2.2.1 on'.2.2.2.2.2.2.1 T4 (by rw [len1]; omega) (fun h5 T5 F5 => ?_)
      have F5 := F4.tr F5
      refine m_put (d := d + 1) T5 (by rw [List.length_append, len1]; omega) (by decide) (by decide) (fun h6 T6 F6 G6 => ?_)
      have F6 := F5.tr ⟨F6, G6⟩
      rw [F6.1 635 (by decide) (by decide), (a6 (by omega)).2]
      refine m_num on'.2.2.2.2.2.2.2.1 on'.2.2.2.2.2.2.2.2.1 T6 (by rw [len1, List.length_append, len1]; omega) (fun h7 T7 F7 => ?_)
      have F7 := F6.tr F7
      refine m_put (d := d + 1) T7 (by rw [List.length_append, len1, List.length_append, len1]; omega) (by decide) (by decide) (fun h8 T8 F8 G8 => ?_)
      have F8 := F7.tr ⟨F8, G8⟩
      refine m_shutAll (H.gw T8 F8) (by omega) (by rw [len1, List.length_append, len1, List.length_append, len1]; omega) (fun h9 H9 F9 => q h9 ?_ ((mFrO.n F8).tr F9))
      simp only [List.append_assoc, List.cons_append, List.nil_append] at H9 ⊢
      exact H9
  have st2 : ∀ (W2 : Tx) (h2 : Hp), W2.length + st.length + 66 < 3000 → mTx W2 h2 → mFrN h h2 → W2 ++ (kdT (nd L i) ++ spT (nd L i)) = W ++ 63 :: (nmT (nd L i) ++ (kdT (nd L i) ++ spT (nd L i))) → L0 g (d + 2) m10_putHole (retV Q) 28 [some (LR 10 608), some (LI (24 * p + i))] h2 := by
    intro W2 h2 l2 T2 F2 e2
    refine v10_putHole_28 ?_
    rw [F2.1 632 (by decide) (by decide), a4]
    refine ⟨by omega, by omega, fun z => st3 W2 h2 (by omega) T2 F2 ?_, fun z => m_put (d := d + 1) T2 (by omega) (by decide) (by decide) (fun h3 T3 F3 G3 => ?_)⟩
    · rw [← e2]
      unfold kdT
      rw [if_pos (by omega), List.nil_append]
    · have F3 := F2.tr ⟨F3, G3⟩
      have lk := numT_l (v := nd L i 2)
      rw [F3.1 632 (by decide) (by decide), a4]
      refine m_num (by omega) (by omega) T3 (by rw [len1]; omega) (fun h4 T4 F4 => st3 _ h4 (by rw [List.length_append, len1]; omega) T4 (F3.tr F4) ?_)
      rw [← e2]
      unfold kdT
      rw [if_neg (by omega)]
      simp only [List.append_assoc, List.cons_append, List.nil_append]
  refine g10_putHole (fun _ => v10_putHole (m_put (d := d + 1) H.1 (by omega) (by decide) (by decide) (fun h2 T2 F2 G2 => ?_)))
  rw [F2 631 (by decide) (by decide), a3]
  refine ⟨by omega, by omega, fun z => st2 _ h2 (by rw [len1]; omega) T2 ⟨F2, G2⟩ ?_, fun z => ?_⟩
  · unfold nmT
    rw [if_pos (by omega)]
    simp only [List.append_assoc, List.cons_append, List.nil_append]
  · rw [w32_id (by omega) (by omega)]
    refine m_put (d := d + 1) T2 (by rw [len1]; omega) (by omega) (by omega) (fun h3 T3 F3 G3 => st2 _ h3 (by rw [len1, len1]; omega) T3 (mFrN.tr ⟨F2, G2⟩ ⟨F3, G3⟩) ?_)
    unfold nmT
    rw [if_neg (by omega)]
    simp only [List.append_assoc, List.cons_append, List.nil_append]
theorem m_nmb {h : Hp} {x : Nd} (on : okN E x) (s1 : x 0 = 1) {W : Tx} {st : List Nat} (H : mPr W st h) (l1 : st.length ≤ 120) (l2 : W.length + st.length + 30 < 3000) (q : ∀ h' : Hp, mPr (W ++ nt x ++ bhT x st) (bhS x st) h' → mFrO h h' → Q h') : Good g (d + 3) i10_putNumber [LR 10 608, LL (x 5)] S0 h S0 (retV (fun h2 => Good g (d + 3) i10_shutAll [LR 10 608] S0 h2 S0 (retV Q))) := by
  have oo : -1000000000000000000 < x 5 ∧ x 5 < 1000000000000000000 ∧ x 7 = 0 := by rcases on with o | o | o | o <;> omega
  have en : nt x = numT (x 5) := by unfold nt; rw [if_neg (by omega), if_pos s1]
  rw [en] at q
  have l5 := numT_l (v := x 5)
  unfold bhT bhS at q
  rw [if_neg (by omega), if_neg (by omega)] at q
  exact m_num (d := d + 1) oo.1 oo.2.1 H.1 (by omega) (fun h2 T2 F2 => m_shutAll (d := d + 1) (H.gw T2 F2) (by omega) (by rw [List.length_append]; omega) (fun h3 H3 F3 => q h3 H3 ((mFrO.n F2).tr F3)))
theorem mPr_0 {h h5 h6 : Hp} (k5 : h5 = hup h 608 76 0) (k6 : h6 = hup h5 608 79 0) : mPr [] [] h6 ∧ mFrO h h6 := by
  refine ⟨⟨⟨by rw [k6, hup_nj (by decide), k5, hup_at]; rfl, by decide, by decide, fun i i0 i1 => ?_⟩, by rw [k6, hup_at]; rfl, trivial⟩, fun a x1 _ _ _ => by rw [k6, hup_r x1, k5, hup_r x1], fun j j1 j2 => by rw [k6, hup_nj j2, k5, hup_nj j1]⟩
  have : ((([] : Tx).length : Nat) : Int) = 0 := rfl
  omega
end
section
variable {g : Gl} {d : Nat} {h : Hp} {E : Ev} {T : NL} {P : Ps} {Q : Int → Hp → Prop}
theorem x_print (H : cA E T P h) {x : Int} (q0 : ¬ (0 ≤ x ∧ x < 40 ∧ (P x).1 = 1) → Q (-1001) h) (q1 : 0 ≤ x ∧ x < 40 ∧ (P x).1 = 1 → ∀ h' : Hp, cT (prT (P x).2.2 0) h' → fr2 h h' → Q ((prT (P x).2.2 0).length : Nat) h') : Good g (d + 6) i9_print [LR 9 4, LI x] S0 h S0 (retI Q) := by
  obtain ⟨a1, a2, a3, a4, a5, a6, a7⟩ := id H
  refine g9_print (fun _ => v9_print (x_patternOf (E := E) (d := d + 4) a5 a6 (fun c => ⟨fun z => absurd rfl z, fun _ => q0 c⟩) (fun x0 x1 x2 => ⟨fun _ => ?_, fun z => absurd z (by omega)⟩)))
  have o := a5 x x0 x1
  have oo := o.2.2 x2
  have C := ((a6 x x0 x1).2.2 x2).2
  have lp := ln_pos oo.2.1
  refine c_write (NDs.pat x0 x1) (by omega) o.2.1 (by decide) C.1 C.2.1 ?_ a1 oo.1 oo.2.1 (Int.le_refl 0) (by omega) (K := 65) (fun i _ _ => by have := nt_l (nd (P x).2.2 i); omega) (by have := o.2.1; unfold ln at this; omega) (q1 ⟨x0, x1, x2⟩)
  rw [show 35 + 14 * x + 1 + 8 = 35 + 14 * x + 9 by omega]
  exact C.2.2.1
theorem x_printNode (H : cA E T P h) {x : Int} (q0 : ¬ (0 ≤ x ∧ x < ln T) → Q (-1001) h) (q1 : 0 ≤ x ∧ x < ln T → ∀ h' : Hp, cT (prT T x) h' → fr2 h h' → Q ((prT T x).length : Nat) h') : Good g (d + 6) i9_printNode [LR 9 4, LI x] S0 h S0 (retI Q) := by
  obtain ⟨a1, a2, a3, a4, a5, a6, a7⟩ := id H
  refine g9_printNode (fun _ => v9_printNode (f_has (d := d + 4) (by decide) a4.1.1 (bn (fun c => ?_) (fun c => q0 c))))
  exact c_write NDs.tree (by decide) a3.2.2.1 (by decide) a4.1 a4.2.1 a4.2.2 a1 a3.1 (a3.w0 (by omega)) c.1 c.2 (K := 21) (fun i i0 i1 => by have := nt_lt (a3.2.2.2 i i0 i1); omega) (by have := a3.2.2.1; unfold ln at this; omega) (q1 c)
theorem y_print (H : mA E T P h) {x : Int} (q0 : ¬ (0 ≤ x ∧ x < 40 ∧ (P x).1 = 1) → Q (-1001) h) (q1 : 0 ≤ x ∧ x < 40 ∧ (P x).1 = 1 → ∀ h' : Hp, mTx (prT (P x).2.2 0) h' → mFrO h h' → Q ((prT (P x).2.2 0).length : Nat) h') : Good g (d + 4) i10_print [LR 10 608, LI x] S0 h S0 (retI Q) := by
  obtain ⟨a1, a2, a3, a4, a5, a6⟩ := id H
  refine g10_print (fun _ => v10_print (y_noPattern (E := E) (d := d + 1) a5 a6 (bz (fun c => fun h5 k5 h6 k6 => ?_) q0)))
  have c := Classical.not_not.mp c
  have o := a5 x c.1 c.2.1
  have oo := o.2.2 c.2.2
  have M := ((a6 x c.1 c.2.1).2 c.2.2).2
  have q1 := q1 c
  have l9 := o.2.1
  have wl := oo.2.1
  generalize (P x).2.2 = L at *
  have ll : ln L = (L.length : Nat) := rfl
  have lp : ∀ (m : Nat) (i : Int) (st : List Nat) (W : Tx) (h2 : Hp), 0 ≤ i → i + m = ln L → (st.length : Int) ≤ i → mPr W st h2 → mFrO h h2 → W.length + m * 65 + st.length ≤ 2900 → W ++ prF L m i st = prT L 0 → L0 g (d + 3) m10_print (retI Q) 27 [some (LR 10 608), some (LI x), some (LI (24 * x + i))] h2 := by
    intro m
    induction m with
    | zero =>
      intro i st W h2 i0 hi si H2 F l e
      refine v10_print_27 ⟨c.1, c.2.1, ?_⟩
      rw [F.1 627 (by decide) (by decide) (by decide) (by decide), M.1, w32_id (x := 24 * x) (by omega) (by omega), w32_id (by omega) (by omega)]
      refine ⟨fun _ => ?_, fun z => absurd (by omega) z⟩
      rw [show prF L 0 i st = [] from rfl, List.append_nil] at e
      have T2 := H2.1
      rw [T2.1, e]
      rw [e] at T2
      exact q1 h2 T2 F
    | succ m ih =>
      intro i st W h2 i0 hi si H2 F l e
      have i1 : i < ln L := by omega
      have on := oo.1 i i0 i1
      have p7 := on.p7 a1
      have nl := nt_l (nd L i)
      have bl := bh_l (nd L i) st
      have M2 : mPt x L h2 := M.to (fun a b0 b1 => F.1 a (by omega) (by omega) (by omega) (by omega))
      have me2 : mE E h2 := a2.to (F.2 0 (by decide) (by decide)) (F.2 2 (by decide) (by decide)) (F.1 609 (by decide) (by decide) (by decide) (by decide)) (F.1 610 (by decide) (by decide) (by decide) (by decide)) (F.1 611 (by decide) (by decide) (by decide) (by decide)) (F.1 612 (by decide) (by decide) (by decide) (by decide))
      obtain ⟨b0, b1, b2, b3, b4, b5, b6, b7⟩ := M2.2 i i0 i1
      rw [prF_s] at e
      have nx : ∀ h3 : Hp, mPr (W ++ nt (nd L i) ++ bhT (nd L i) st) (bhS (nd L i) st) h3 → mFrO h2 h3 → L0 g (d + 3) m10_print (retI Q) 27 [some (LR 10 608), some (LI x), some (LI (24 * x + i + 1))] h3 := fun h3 H3 F3 => by
        have := ih (i + 1) _ _ h3 (by omega) (by omega) (by omega) H3 (F.tr F3) (by rw [List.length_append, List.length_append]; omega) (by rw [List.append_assoc, List.append_assoc]; exact e)
        rwa [← Int.add_assoc] at this
      refine v10_print_27 ⟨c.1, c.2.1, ?_⟩
      rw [M2.1, b0, b1, b2, w32_id (x := 24 * x) (by omega) (by omega), w32_id (x := 24 * x + ln L) (by omega) (by omega), w32_id (x := 24 * x + i + 1) (by omega) (by omega)]
      refine ⟨fun z => absurd z (by omega), fun _ => ⟨by omega, by omega, fun z => ⟨fun z2 => ⟨fun z3 => ⟨fun z4 => ?_, fun z4 => ?_⟩, fun z3 => ?_⟩, fun z2 => ?_⟩, fun z => ?_⟩⟩
      · have en : nt (nd L i) = [33] := by unfold nt; rw [if_neg z, if_neg z2, if_neg z3, if_neg z4]
        have p1 : nd L i 7 = 1 := by rcases on with o | o | o | o <;> omega
        rw [en] at nx
        unfold bhT bhS at nx
        rw [if_pos (by omega), if_neg z, List.append_nil, if_pos (by omega), if_neg z] at nx
        exact m_put (d := d + 2) H2.1 (by omega) (by decide) (by decide) (fun h3 T3 F3 G3 => nx h3 (H2.gw T3 ⟨F3, G3⟩) (mFrO.n ⟨F3, G3⟩))
      · have en : nt (nd L i) = [46, 46] := by unfold nt; rw [if_neg z, if_neg z2, if_neg z3, if_pos z4]
        have p1 : nd L i 7 = 1 := by rcases on with o | o | o | o <;> omega
        rw [en] at nx
        unfold bhT bhS at nx
        rw [if_pos (by omega), if_neg z, List.append_nil, if_pos (by omega), if_neg z] at nx
        refine m_put (d := d + 2) H2.1 (by omega) (by decide) (by decide) (fun h3 T3 F3 G3 => m_put (d := d + 2) T3 (by rw [len1]; omega) (by decide) (by decide) (fun h4 T4 F4 G4 => nx h4 ?_ (mFrO.n (mFrN.tr ⟨F3, G3⟩ ⟨F4, G4⟩))))
        rw [List.append_assoc] at T4
        exact H2.gw T4 (mFrN.tr ⟨F3, G3⟩ ⟨F4, G4⟩)
      · exact m_hol2 a1 c.1 c.2.1 M2 l9 i0 i1 on z3 H2 (by omega) (by omega) nx
      · rw [if_pos z2]
        exact m_nmb on z2 H2 (by omega) (by omega) nx
      · exact m_head a1 me2 on z H2 (by omega) (by omega) nx
  obtain ⟨H6, F6⟩ := mPr_0 k5 k6
  have X := lp L.length 0 [] [] h6 (Int.le_refl 0) (by omega) (Int.le_refl 0) H6 F6 (by simp only [List.length_nil]; omega) (by unfold prT; rw [sz_all wl, show (ln L).toNat = L.length by omega]; rfl)
  rw [Int.add_zero] at X
  rw [w32_id (by omega) (by omega)]
  exact X
theorem y_printNode (H : mA E T P h) {x : Int} (q0 : ¬ (0 ≤ x ∧ x < ln T) → Q (-1001) h) (q1 : 0 ≤ x ∧ x < ln T → ∀ h' : Hp, mTx (prT T x) h' → mFrO h h' → Q ((prT T x).length : Nat) h') : Good g (d + 4) i10_printNode [LR 10 608, LI x] S0 h S0 (retI Q) := by
  obtain ⟨a1, a2, a3, a4, a5, a6⟩ := id H
  refine g10_printNode (fun _ => v10_printNode (m_noNode (d := d + 1) a4.1.1 a3.2.2.1 (bz (fun c => fun h5 k5 h6 k6 => ?_) q0)))
  have c := Classical.not_not.mp c
  have q1 := q1 c
  have l9 := a3.2.2.1
  have ll : ln T = (T.length : Nat) := rfl
  have fl := sz_le c.1 c.2
  have fp := sz_pos c.1 c.2
  have lp : ∀ (m : Nat) (i : Int) (st : List Nat) (W : Tx) (h2 : Hp), x ≤ i → i + m = x + sz T x → (st.length : Int) ≤ i - x → mPr W st h2 → mFrO h h2 → W.length + m * 21 + st.length ≤ 2900 → W ++ prF T m i st = prT T x → L0 g (d + 3) m10_printNode (retI Q) 24 [some (LR 10 608), some (LI x), some (LI i)] h2 := by
    intro m
    induction m with
    | zero =>
      intro i st W h2 i0 hi si H2 F l e
      refine v10_printNode_24 ⟨c.1, by omega, ?_⟩
      rw [F.1 639 (by decide) (by decide) (by decide) (by decide), (a4.1.2 x c.1 c.2).2.2]
      refine ⟨fun _ => ?_, fun z => absurd (by omega) z⟩
      rw [show prF T 0 i st = [] from rfl, List.append_nil] at e
      have T2 := H2.1
      rw [T2.1, e]
      rw [e] at T2
      exact q1 h2 T2 F
    | succ m ih =>
      intro i st W h2 i0 hi si H2 F l e
      have i1 : i < ln T := by omega
      have on := a3.1 i (by omega) i1
      have s9 := a3.2.2.2 i (by omega) i1
      have nl := nt_lt s9
      have bl := bh_l (nd T i) st
      have me2 : mE E h2 := a2.to (F.2 0 (by decide) (by decide)) (F.2 2 (by decide) (by decide)) (F.1 609 (by decide) (by decide) (by decide) (by decide)) (F.1 610 (by decide) (by decide) (by decide) (by decide)) (F.1 611 (by decide) (by decide) (by decide) (by decide)) (F.1 612 (by decide) (by decide) (by decide) (by decide))
      have M := a4.1.2 i (by omega) i1
      rw [prF_s] at e
      have nx : ∀ h3 : Hp, mPr (W ++ nt (nd T i) ++ bhT (nd T i) st) (bhS (nd T i) st) h3 → mFrO h2 h3 → L0 g (d + 3) m10_printNode (retI Q) 24 [some (LR 10 608), some (LI x), some (LI (i + 1))] h3 := fun h3 H3 F3 => ih (i + 1) _ _ h3 (by omega) (by omega) (by omega) H3 (F.tr F3) (by rw [List.length_append, List.length_append]; omega) (by rw [List.append_assoc, List.append_assoc]; exact e)
      refine v10_printNode_24 ⟨c.1, by omega, ?_⟩
      rw [F.1 639 (by decide) (by decide) (by decide) (by decide), F.1 637 (by decide) (by decide) (by decide) (by decide), F.1 638 (by decide) (by decide) (by decide) (by decide), (a4.1.2 x c.1 c.2).2.2, M.1, M.2.1, w32_id (x := i + 1) (by omega) (by omega)]
      refine ⟨fun z => absurd z (by omega), fun _ => ⟨by omega, by omega, fun z => ?_, fun z => ?_⟩⟩
      · have z2 : nd T i 0 = 1 := by rcases on with o | o | o | o <;> omega
        exact m_nmb on z2 H2 (by omega) (by omega) nx
      · have z2 : nd T i 0 = 0 := by rcases on with o | o | o | o <;> omega
        exact m_head a1 me2 on z2 H2 (by omega) (by omega) nx
  obtain ⟨H6, F6⟩ := mPr_0 k5 k6
  exact lp (sz T x).toNat x [] [] h6 (Int.le_refl x) (by omega) (by simp only [List.length_nil]; omega) H6 F6 (by simp only [List.length_nil]; omega) rfl
end
