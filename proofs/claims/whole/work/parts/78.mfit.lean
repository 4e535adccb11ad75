/-! MATCHING, the model: all fillings of a pattern at a node -/
theorem ln_pos {L : NL} (w : wf L 1) : 0 < ln L := by
  cases L with
  | nil => exact absurd w (by simp [wf])
  | cons x L => unfold ln; simp
theorem m_fitAll {g : Gl} {D : Nat} {Q : Hp → Prop} {h : Hp} {E : Ev} {P T : NL} {pp t : Int} (H : MHs E P T pp h) (t0 : 0 ≤ t) (t1 : t < ln T) (q : ∀ h' : Hp, mFrm h h' → mAn (run E P T false t) h' → Q h') : Good g (D + 4) i10_fitAll [LR 10 608, LI pp, LI t] S0 h S0 (retV Q) := by
  obtain ⟨a1, a2, a3, a4, a5, a6, a7, a8, a9, a10⟩ := id H
  have l0 : 0 < ln P := ln_pos a9
  refine g10_fitAll (fun _ _ => v10_fitAll (fun h1 k1 h2 k2 h3 k3 h4 k4 h5 k5 h6 k6 => ?_))
  have F6 : mFrm h h6 := by
    rw [k6, k5, k4, k3, k2, k1]
    have f0 : mFrm h h := ⟨fun _ _ _ => rfl, fun _ _ _ _ => rfl⟩
    exact mFrm.f (mFrm.f (mFrm.f (mFrm.f (mFrm.f (mFrm.f f0 (by decide)) (by decide)) (by decide)) (by decide)) (by decide)) (by decide)
  have v51 : h6 608 51 = 0 := by rw [k6, hup_nj (by decide), k5, hup_nj (by decide), k4, hup_nj (by decide), k3, hup_nj (by decide), k2, hup_nj (by decide), k1, hup_at]
  have v60 : h6 608 60 = 0 := by rw [k6, hup_nj (by decide), k5, hup_nj (by decide), k4, hup_nj (by decide), k3, hup_nj (by decide), k2, hup_at]
  have v61 : h6 608 61 = 0 := by rw [k6, hup_nj (by decide), k5, hup_nj (by decide), k4, hup_nj (by decide), k3, hup_at]
  have v64 : h6 608 64 = 0 := by rw [k6, hup_nj (by decide), k5, hup_nj (by decide), k4, hup_at]
  have v62 : h6 608 62 = 0 := by rw [k6, hup_nj (by decide), k5, hup_at]
  have v63 : h6 608 63 = 0 := by rw [k6, hup_at]
  have lp : ∀ (m : Nat) (y : Int) (h7 : Hp), 0 ≤ y → y + m = 10 → (∀ a : Int, a ≠ 644 → h7 a = h6 a) → (∀ k : Int, 0 ≤ k → k < y → h7 644 k = -1) → L0 g (D + 3) m10_fitAll (retV Q) 32 [some (LR 10 608), some (LI pp), some (LI t), some (LI y), none] h7 := by
    intro m
    induction m with
    | zero =>
      intro y h7 y0 hy F7 R7
      refine v10_fitAll_32 ⟨fun _ => ?_, fun z => absurd (by omega) z⟩
      rw [w32_id (x := 24 * pp) (by omega) (by omega)]
      have X := m_goal2 (g := g) (d := D + 2) (pp := pp) (h := h7) (G := 0) (p := 0) (t := t) (nx := -1) (r := []) (Q := fun r4 h2 => ∀ h5 : Hp, h5 = hup h2 608 66 r4 → L0 g (D + 3) m10_fitAll (retV Q) 67 [some (LR 10 608), none, none, some (LI 1), none] h5) (by rw [F7 608 (by decide)]; exact v51) (Int.le_refl _) (by decide) rfl (fun h8 A8 L8 _ h9 k9 => ?_)
      · unfold enc at X
        rw [if_neg (by omega), Int.add_zero] at X
        exact X
      · have okk : okc P T [(0, t)] := fun x hx => by
          rcases List.mem_cons.mp hx with rfl | z
          · exact ⟨Int.le_refl _, l0, t0, t1⟩
          · cases z
        have ww : wgt P [(0, t)] ≤ (24 : Nat) := by
          have := sz_all a9
          simp only [wgt]
          omega
        have S := sim (g := g) (D := D) (Q := Q) (h0 := h) H 24 [(0, t)] false (fun _ => -1) [] (0, 0, 0, []) okk ww rfl rfl ⟨by simp, by simp, Or.inl rfl, Or.inl rfl, by simp⟩ (fun z => absurd z (by simp)) ?_
        · refine S h9 ⟨1, ⟨?_, ?_, by decide, ?_, trivial, fun i i0 i1 => absurd i1 (by simp; omega), ?_, ⟨by simp, by simp, Or.inl rfl, Or.inl rfl, by simp⟩, fun e he => by cases he⟩, by simp, by simp, ?_, fun k b0 b1 => ?_, fun k b0 b1 => Or.inl rfl, fun e he => Or.inr (okk e (by simpa [mkI] using he))⟩
          · rw [k9]
            refine mFrm.f ?_ (by decide)
            refine mFrm.ga (h := h7) ?_ A8
            exact ⟨fun a c1 c2 => by rw [F7 a (by omega)]; exact F6.1 a c1 c2, fun j c1 c2 c3 => by rw [F7 608 (by decide)]; exact F6.2 j c1 c2 c3⟩
          · rw [k9, hup_nj (by decide)]; exact A8.1
          · rw [k9, hup_nj (by decide), A8.2.2.2 60 (by decide), F7 608 (by decide)]; exact v60
          · have e : ∀ j : Int, j ≠ 51 → j ≠ 66 → h9 608 j = h6 608 j := fun j c1 c2 => by rw [k9, hup_nj c2, A8.2.2.2 j c1, F7 608 (by decide)]
            exact ⟨by rw [e 61 (by decide) (by decide)]; exact v61, by rw [e 62 (by decide) (by decide)]; exact v62, by rw [e 63 (by decide) (by decide)]; exact v63, by rw [e 64 (by decide) (by decide)]; exact v64, fun i hi => absurd hi (by simp)⟩
          · rw [k9, hup_at]
            exact L8.to (Int.le_refl _) (fun i _ _ => ⟨by rw [hup_ne (by decide)], by rw [hup_ne (by decide)], by rw [hup_ne (by decide)]⟩)
          · rw [k9, hup_ne (by decide), A8.2.2.1 644 (by decide) (by decide) (by decide)]
            exact R7 k b0 (by omega)
        · have F : Fin_ Q h (run E P T false t) := fun h' f a => q h' f a
          unfold run at F
          generalize Wk P T (fhG E P T) (alk T) false 24 [(0, t)] false (fun _ => -1) (0, 0, 0, []) = R at F
          have b0 : bk g (D + 3) Q h P T pp [] R.2 := by
            unfold bk
            split
            · exact F
            · exact F
          unfold PoM
          split
          · split
            · exact F
            · exact b0
          · exact b0
    | succ m ih =>
      intro y h7 y0 hy F7 R7
      refine v10_fitAll_32 ⟨fun z => absurd z (by omega), fun _ => ⟨y0, by omega, fun h8 k8 => ?_⟩⟩
      rw [w32_id (by omega) (by omega)]
      refine ih (y + 1) h8 (by omega) (by omega) (fun a ha => by rw [k8, hup_r ha]; exact F7 a ha) (fun k b0 b1 => ?_)
      by_cases ck : k = y
      · subst ck
        rw [k8, hup_at]
      · rw [k8, hup_nj (by omega)]
        exact R7 k b0 (by omega)
  exact lp 10 0 h6 (by decide) (by decide) (fun _ _ => rfl) (fun k b0 b1 => by omega)
