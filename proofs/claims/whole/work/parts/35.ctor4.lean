/-! READER, MATCHER, FINDINGS, NET -/
section
variable {g : Gl} {d : Nat} {h : Hp}
theorem k_Reader {S : Sx} {Q : Hp → Prop} (hS : S.1 = 598) (q : Q (pth h 597 598)) : Good g (d + 1) i7_init [LR 7 597, LR 2 5, LR 8 10, LR 5 24] S (hclr h 597) (pt S 597 598) (retV Q) := by
  obtain ⟨s1, s2⟩ := S
  have hS : s1 = 598 := hS
  subst hS
  refine Good.conv (S' := (598, sup (sup (sup s2 7 597 0 5) 7 597 1 10) 7 597 2 24)) ?_ (g7_init (show (598 : Int) ≤ 598 by decide) (v7_init (by decide) (by decide) (by decide) ?_))
  · refine Seq.obj rfl (by decide) (by decide) (fun b h1 h2 => by omega) (fun u b j hb => ?_) (fun ht k hk hkd => ?_) (fun _ _ => trivial) (fun z => by omega)
    · show sup (sup (sup s2 7 597 0 5) 7 597 1 10) 7 597 2 24 u b j = s2 u b j
      rw [sup_ne (by omega), sup_ne (by omega), sup_ne (by omega)]
    · have hk : k < 9 := hk
      rcases (show k = 0 ∨ k = 1 ∨ k = 2 ∨ k = 3 ∨ k = 4 ∨ k = 5 ∨ k = 6 ∨ k = 7 ∨ k = 8 by omega) with rfl | rfl | rfl | rfl | rfl | rfl | rfl | rfl | rfl <;> first | exact absurd hkd (by decide) | rfl
  · intro T1 e1 T2 e2 T3 e3 h4 e4
    subst e1 e2 e3 e4
    refine ⟨rfl, ?_⟩
    have e : hup (hclr h 597) 597 8 (-1) = pth h 597 598 := by
      funext a j
      unfold pth
      by_cases c : a = 597
      · subst c
        rw [if_pos (by decide)]
        simp [hup, hclr, iniV]
      · rw [if_neg (by omega), hup_ne c, hclr_ne c]
    rw [e]
    exact q
theorem k_Findings {S : Sx} {Q : Hp → Prop} (hS : S.1 = 604) (q : Q (pth h 603 605)) : Good g (d + 1) i1_init [LR 1 603, LR 3 598, LR 5 14, LR 0 595] S (hclr h 603) (pt S 603 605) (retV Q) := by
  obtain ⟨s1, s2⟩ := S
  have hS : s1 = 604 := hS
  subst hS
  refine Good.conv (S' := (605, sup (sup (sup (sup (sclr s2 604) 1 603 3 604) 1 603 0 598) 1 603 1 14) 1 603 2 595)) ?_ (g1_init (show (604 : Int) ≤ 605 by decide) (v1_init (by decide) (by decide) (by decide) ?_))
  · refine Seq.obj rfl (by decide) (by decide) (fun b h1 h2 => ?_) (fun u b j hb => ?_) (fun ht k hk hkd => ?_) (fun _ _ => trivial) (fun z => by omega)
    · rcases (show b = 604 by omega) with rfl
      exact ⟨by decide, by decide⟩
    · show sup (sup (sup (sup (sclr s2 604) 1 603 3 604) 1 603 0 598) 1 603 1 14) 1 603 2 595 u b j = s2 u b j
      rw [sup_ne (by omega), sup_ne (by omega), sup_ne (by omega), sup_ne (by omega), sclr_ne (by omega)]
    · have hk : k < 7 := hk
      rcases (show k = 0 ∨ k = 1 ∨ k = 2 ∨ k = 3 ∨ k = 4 ∨ k = 5 ∨ k = 6 by omega) with rfl | rfl | rfl | rfl | rfl | rfl | rfl <;> first | exact absurd hkd (by decide) | rfl
  · refine ⟨rfl, show (605 : Int) ≤ 605 by decide, ?_⟩
    intro T1 e1 h2 e2 T3 e3 T4 e4 T5 e5 T6 e6
    subst e1 e2 e3 e4 e5 e6
    refine ⟨rfl, ?_⟩
    have e : hclr (hclr h 603) 604 = pth h 603 605 := by
      funext a j
      unfold pth
      by_cases c : 603 ≤ a ∧ a < 605
      · rw [if_pos c]
        rcases (show a = 603 ∨ a = 604 by omega) with rfl | rfl <;> simp [hclr, iniV]
      · rw [if_neg (by omega), hclr_ne (by omega), hclr_ne (by omega)]
    exact e ▸ q
theorem k_Net {S : Sx} {Q : Hp → Prop} (hS : S.1 = 606) (q : Q (pth h 605 607)) : Good g (d + 1) i4_init [LR 4 605, LR 2 5, LR 5 14, LR 24 34] S (hclr h 605) (pt S 605 607) (retV Q) := by
  obtain ⟨s1, s2⟩ := S
  have hS : s1 = 606 := hS
  subst hS
  refine Good.conv (S' := (607, sup (sup (sup (sup (sclr s2 606) 4 605 3 606) 4 605 0 5) 4 605 1 14) 4 605 2 34)) ?_ (g4_init (show (606 : Int) ≤ 607 by decide) (v4_init (by decide) (by decide) (by decide) ?_))
  · refine Seq.obj rfl (by decide) (by decide) (fun b h1 h2 => ?_) (fun u b j hb => ?_) (fun ht k hk hkd => ?_) (fun _ _ => trivial) (fun z => by omega)
    · rcases (show b = 606 by omega) with rfl
      exact ⟨by decide, by decide⟩
    · show sup (sup (sup (sup (sclr s2 606) 4 605 3 606) 4 605 0 5) 4 605 1 14) 4 605 2 34 u b j = s2 u b j
      rw [sup_ne (by omega), sup_ne (by omega), sup_ne (by omega), sup_ne (by omega), sclr_ne (by omega)]
    · have hk : k < 5 := hk
      rcases (show k = 0 ∨ k = 1 ∨ k = 2 ∨ k = 3 ∨ k = 4 by omega) with rfl | rfl | rfl | rfl | rfl <;> first | exact absurd hkd (by decide) | rfl
  · refine ⟨rfl, show (607 : Int) ≤ 607 by decide, ?_⟩
    intro T1 e1 h2 e2 T3 e3 T4 e4 T5 e5 T6 e6 h7 e7
    subst e1 e2 e3 e4 e5 e6 e7
    refine ⟨rfl, ?_⟩
    have e : hup (hclr (hclr h 605) 606) 605 4 (-1) = pth h 605 607 := by
      funext a j
      unfold pth
      by_cases c : 605 ≤ a ∧ a < 607
      · rw [if_pos c]
        rcases (show a = 605 ∨ a = 606 by omega) with rfl | rfl <;> simp [hup, hclr, iniV]
      · rw [if_neg (by omega), hup_ne (by omega), hclr_ne (by omega), hclr_ne (by omega)]
    exact e ▸ q
theorem k_Matcher {S : Sx} {Q : Hp → Prop} (hS : S.1 = 599) (q : Q (pth h 598 603)) : Good g (d + 1) i3_init [LR 3 598, LR 2 5, LR 5 14, LR 0 595] S (hclr h 598) (pt S 598 603) (retV Q) := by
  obtain ⟨s1, s2⟩ := S
  have hS : s1 = 599 := hS
  subst hS
  refine Good.conv (S' := (603, sup (sup (sup (sclr (sup (sclr (sup (sclr (sup (sclr s2 599) 3 598 2 599) 600) 3 598 3 600) 601) 3 598 4 601) 602) 3 598 5 602) 3 598 0 5) 3 598 1 14)) ?_ (g3_init (show (599 : Int) ≤ 603 by decide) (v3_init (by decide) (by decide) (by decide) ?_))
  · refine Seq.obj rfl (by decide) (by decide) (fun b h1 h2 => ?_) (fun u b j hb => ?_) (fun ht k hk hkd => ?_) (fun _ _ => trivial) (fun z => by omega)
    · rcases (show b = 599 ∨ b = 600 ∨ b = 601 ∨ b = 602 by omega) with rfl | rfl | rfl | rfl <;> exact ⟨by decide, by decide⟩
    · show sup (sup (sup (sclr (sup (sclr (sup (sclr (sup (sclr s2 599) 3 598 2 599) 600) 3 598 3 600) 601) 3 598 4 601) 602) 3 598 5 602) 3 598 0 5) 3 598 1 14 u b j = s2 u b j
      rw [sup_ne (by omega), sup_ne (by omega), sup_ne (by omega), sclr_ne (by omega), sup_ne (by omega), sclr_ne (by omega), sup_ne (by omega), sclr_ne (by omega), sup_ne (by omega), sclr_ne (by omega)]
    · have hk : k < 10 := hk
      rcases (show k = 0 ∨ k = 1 ∨ k = 2 ∨ k = 3 ∨ k = 4 ∨ k = 5 ∨ k = 6 ∨ k = 7 ∨ k = 8 ∨ k = 9 by omega) with rfl | rfl | rfl | rfl | rfl | rfl | rfl | rfl | rfl | rfl <;> first | exact absurd hkd (by decide) | rfl
  · refine ⟨rfl, show (600 : Int) ≤ 603 by decide, ?_⟩
    intro T1 e1 h2 e2 T3 e3
    subst e1 e2 e3
    refine ⟨rfl, show (601 : Int) ≤ 603 by decide, ?_⟩
    intro T1 e1 h2 e2 T3 e3
    subst e1 e2 e3
    refine ⟨rfl, show (602 : Int) ≤ 603 by decide, ?_⟩
    intro T1 e1 h2 e2 T3 e3
    subst e1 e2 e3
    refine ⟨rfl, show (603 : Int) ≤ 603 by decide, ?_⟩
    intro T1 e1 h2 e2 T3 e3 T4 e4 T5 e5 h6 e6 h7 e7
    subst e1 e2 e3 e4 e5 e6 e7
    refine ⟨rfl, ?_⟩
    have e : hup (hup (hclr (hclr (hclr (hclr (hclr h 598) 599) 600) 601) 602) 598 7 14) 598 8 595 = pth h 598 603 := by
      funext a j
      unfold pth
      by_cases c : 598 ≤ a ∧ a < 603
      · rw [if_pos c]
        rcases (show a = 598 ∨ a = 599 ∨ a = 600 ∨ a = 601 ∨ a = 602 by omega) with rfl | rfl | rfl | rfl | rfl
        · by_cases j8 : j = 8
          · subst j8; simp [hup, iniV]
          · by_cases j7 : j = 7
            · subst j7; simp [hup, iniV]
            · simp [hup, hclr, iniV, j7, j8]
        all_goals simp [hup, hclr, iniV]
      · rw [if_neg (by omega), hup_ne (by omega), hup_ne (by omega), hclr_ne (by omega), hclr_ne (by omega), hclr_ne (by omega), hclr_ne (by omega), hclr_ne (by omega)]
    exact e ▸ q
end
