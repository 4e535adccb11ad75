/-! THE RULENET'S CONSTRUCTOR -/
theorem hclr_pth {h : Hp} {lo n n' : Int} (hl : lo ≤ n) (e : n' = n + 1) (hz : ∀ j, iniV n j = 0) : hclr (pth h lo n) n = pth h lo n' := by
  funext a j
  subst e
  unfold hclr pth
  by_cases c : a = n
  · rw [if_pos c, if_pos (by omega), c, hz]
  · rw [if_neg c]
    by_cases c2 : lo ≤ a ∧ a < n
    · rw [if_pos c2, if_pos (by omega)]
    · rw [if_neg c2, if_neg (by omega)]
theorem pth_4 {h : Hp} {n : Int} (hn : 5 ≤ n) : pth (hclr h 4) 5 n = pth h 4 n := by
  funext a j
  unfold hclr pth
  by_cases c : 5 ≤ a ∧ a < n
  · rw [if_pos c, if_pos (by omega)]
  · rw [if_neg c]
    show (if a = 4 then 0 else h a j) = _
    by_cases c2 : a = 4
    · rw [if_pos c2, if_pos (by omega), c2]; rfl
    · rw [if_neg c2, if_neg (by omega)]
theorem Seq.rd {S : Sx} {s2 : Nat → Int → Int → Int} {n y : Int} {F : List Int} (hs : Seq S (cn s2 n F y)) (h4 : 4 < n) (k : Nat) (hk : k < 12) (h3 : (fkt 9 k).1 = 3) (hF : (k : Int) ∈ F) : S.2 9 4 k = RC 9 4 k := by
  have := hs.2.2.1 4 (by decide) (by rw [hs.1]; exact h4) (by decide) k (show k < 14 by omega) h3
  have : S.2 9 4 k = (if (k : Int) ∈ F then RC 9 4 k else 0) := this
  rw [this, if_pos hF]
def sE (s2 : Nat → Int → Int → Int) : Sx := nw (nw (nw (nw (nw (cn s2 595 [5, 4, 3, 2, 1, 0] 40) 595 597 10) 597 598 6) 598 603 7) 603 605 9) 605 607 8
def sF (s2 : Nat → Int → Int → Int) : Sx := (608, sup (sclr (sE s2).2 607) 9 4 11 607)
theorem n9_a {lo hi : Int} (h : lo < hi) (h5 : 5 ≤ lo) : ∀ a : Int, lo ≤ a → a < hi → (SH a).1 ≠ 9 := by
  intro a a0 a1 h
  have key : ∀ (l : List (Nat × Int)) (i : Nat), (∀ q ∈ l, q.1 ≠ 9) → (l.getD i (99, 0)).1 ≠ 9 := fun l i hl => by
    rw [List.getD_eq_getElem?_getD]
    cases hi : l[i]? with
    | none => decide
    | some q => exact hl q (List.mem_of_getElem? hi)
  unfold SH at h
  split at h
  · have e : shA.getD a.toNat (99, 0) = (shA.drop 5).getD (a.toNat - 5) (99, 0) := by
      rw [List.getD_eq_getElem?_getD, List.getD_eq_getElem?_getD, List.getElem?_drop, show 5 + (a.toNat - 5) = a.toNat by omega]
    rw [e] at h
    exact absurd h (key _ _ (by decide))
  · split at h
    · exact absurd h (key _ _ (by decide))
    · exact absurd h (key _ _ (by decide))
theorem sE_q (s2 : Nat → Int → Int → Int) : Seq (sE s2) (cn s2 607 [8, 9, 7, 6, 10, 5, 4, 3, 2, 1, 0] 40) :=
  have r : Seq (cn s2 595 [5, 4, 3, 2, 1, 0] 40) (cn s2 595 [5, 4, 3, 2, 1, 0] 40) := ⟨rfl, show (595 : Int) ≤ 663 by decide, fun _ _ _ _ _ _ _ => rfl, fun _ _ _ _ => rfl⟩
  ((((r.nw (by decide) (by decide) (by decide) (by decide) (n9_a (by decide) (by decide)) rfl).nw (by decide) (by decide) (by decide) (by decide) (n9_a (by decide) (by decide)) rfl).nw (by decide) (by decide) (by decide) (by decide) (n9_a (by decide) (by decide)) rfl).nw (by decide) (by decide) (by decide) (by decide) (n9_a (by decide) (by decide)) rfl).nw (by decide) (by decide) (by decide) (by decide) (n9_a (by decide) (by decide)) rfl
theorem sF_q (s2 : Nat → Int → Int → Int) (s1 : Int) : Seq (sF s2) (pt (s1, s2) 4 608) := by
  obtain ⟨a1, a2, a3, a4⟩ := sE_q s2
  have a1 : (sE s2).1 = 607 := a1
  refine ⟨rfl, show (608 : Int) ≤ 663 by decide, fun a a0 a1' ht j hj hjd => ?_, fun z i i0 i1 => ?_⟩
  · have a1' : a < 608 := a1'
    show sup (sclr (sE s2).2 607) 9 4 11 607 _ a j = _
    have n607 : a ≠ 607 := fun z => by rw [z] at ht; exact absurd ht (by decide)
    have a4' : 4 ≤ a := by
      rcases (show a = 1 ∨ a = 2 ∨ a = 3 ∨ 4 ≤ a by omega) with rfl | rfl | rfl | z
      · exact absurd ht (by decide)
      · exact absurd ht (by decide)
      · exact absurd ht (by decide)
      · exact z
    rw [pt_in a4' a1']
    by_cases e4 : a = 4
    · subst e4
      show sup (sclr (sE s2).2 607) 9 4 11 607 9 4 j = RC 9 4 j
      by_cases ej : (j : Int) = 11
      · rw [ej, sup_at]; rfl
      · rw [sup_nj ej, sclr_ne (by omega)]
        have : (sE s2).2 9 4 j = (if (j : Int) ∈ [8, 9, 7, 6, 10, 5, 4, 3, 2, 1, 0] then RC 9 4 j else 0) := a3 4 a0 (by omega) ht j hj hjd
        rw [this]
        have hj : j < 14 := hj
        have h12 : ¬ j = 12 := fun z => by rw [z] at hjd; exact absurd hjd (by decide)
        have h13 : ¬ j = 13 := fun z => by rw [z] at hjd; exact absurd hjd (by decide)
        rw [if_pos]
        simp only [List.mem_cons, List.not_mem_nil, or_false]
        omega
    · rw [sup_ne e4, sclr_ne n607, a3 a a0 (by omega) ht j hj hjd]
      show (if (SH a).1 = 9 then _ else if (SH a).1 = 24 then _ else if 4 ≤ a then RC (SH a).1 a j else _) = _
      rw [if_neg (n9_a (lo := 5) (hi := 608) (by decide) (by decide) a (by omega) a1'), if_neg (by omega), if_pos a4']
  · show sup (sclr (sE s2).2 607) 9 4 11 607 24 34 i = _
    rw [sup_ne (by decide), sclr_ne (by decide), a4 (by omega) i i0 i1, pt_in (by decide) (by decide)]
    show (if i < 40 then 35 + 14 * i else 0) = 35 + 14 * i
    rw [if_pos i1]
theorem NA.tree : NA 14 120 := ⟨rfl, rfl, rfl, rfl, rfl, rfl, rfl, rfl, rfl, rfl⟩
theorem NA.draft : NA 24 120 := ⟨rfl, rfl, rfl, rfl, rfl, rfl, rfl, rfl, rfl, rfl⟩
section
variable {g : Gl} {d : Nat} {h : Hp}
theorem k_RuleNet_e {s2 : Nat → Int → Int → Int} {Sb : Sx} {Q : Hp → Prop} (q : Q (pth h 4 608)) : LW g (d + 2) m9_init Sb (sF s2) (retV Q) 80 [some (LR 9 4), some (LI 40)] [] (cn s2 595 [5, 4, 3, 2, 1, 0] 40) (pth (hclr h 4) 5 595) := by
  have r0 : Seq (cn s2 595 [5, 4, 3, 2, 1, 0] 40) (cn s2 595 [5, 4, 3, 2, 1, 0] 40) := ⟨rfl, show (595 : Int) ≤ 663 by decide, fun _ _ _ _ _ _ _ => rfl, fun _ _ _ _ => rfl⟩
  have r1 := r0.nw (k := 10) (n' := 597) (by decide) (by decide) (by decide) (by decide) (n9_a (by decide) (by decide)) rfl
  have r2 := r1.nw (k := 6) (n' := 598) (by decide) (by decide) (by decide) (by decide) (n9_a (by decide) (by decide)) rfl
  have r3 := r2.nw (k := 7) (n' := 603) (by decide) (by decide) (by decide) (by decide) (n9_a (by decide) (by decide)) rfl
  have r4 := r3.nw (k := 9) (n' := 605) (by decide) (by decide) (by decide) (by decide) (n9_a (by decide) (by decide)) rfl
  refine v9_init_80 ⟨fun _ => ?_, fun c => absurd (by decide) c⟩
  refine ⟨rfl, show (596 : Int) ≤ 608 by decide, ?_⟩
  intro T2 e2 h3 e3
  refine ⟨by show (595 : Int) ≠ 0; decide, pt (596, sclr (cn s2 595 [5, 4, 3, 2, 1, 0] 40).2 595) 595 597, by rw [e2]; show (596 : Int) ≤ 597; decide, show (597 : Int) ≤ 608 by decide, ?_⟩
  rw [e2, e3]
  refine k_Answer (w := 595) (by decide) (by decide) rfl rfl rfl (fun a j a0 a1 => ini0 (by omega) (by omega) (by omega) (by omega) (by omega) (by omega)) ?_
  intro T7 e7
  have e7 : T7 = nw (cn s2 595 [5, 4, 3, 2, 1, 0] 40) 595 597 10 := e7
  rw [e7, show pth (pth (hclr h 4) 5 595) 595 (595 + 2) = pth (hclr h 4) 5 597 from pth_pth (by decide) (by decide)]
  refine ⟨rfl, show (598 : Int) ≤ 608 by decide, ?_⟩
  intro T8 e8 h9 e9
  have t0 : T8.2 9 4 0 = 5 := by
    rw [e8]
    show sclr (nw (cn s2 595 [5, 4, 3, 2, 1, 0] 40) 595 597 10).2 597 9 4 0 = 5
    rw [sclr_ne (by decide)]
    exact r1.rd (by decide) 0 (by decide) rfl (by decide)
  have t1 : T8.2 9 4 1 = 10 := by
    rw [e8]
    show sclr (nw (cn s2 595 [5, 4, 3, 2, 1, 0] 40) 595 597 10).2 597 9 4 1 = 10
    rw [sclr_ne (by decide)]
    exact r1.rd (by decide) 1 (by decide) rfl (by decide)
  have t4 : T8.2 9 4 4 = 24 := by
    rw [e8]
    show sclr (nw (cn s2 595 [5, 4, 3, 2, 1, 0] 40) 595 597 10).2 597 9 4 4 = 24
    rw [sclr_ne (by decide)]
    exact r1.rd (by decide) 4 (by decide) rfl (by decide)
  rw [t0, t1, t4]
  refine ⟨show (597 : Int) ≠ 0 by decide, pt (598, sclr (nw (cn s2 595 [5, 4, 3, 2, 1, 0] 40) 595 597 10).2 597) 597 598, by rw [e8]; show (598 : Int) ≤ 598; decide, show (598 : Int) ≤ 608 by decide, ?_⟩
  rw [e8, e9]
  refine k_Reader rfl ?_
  intro T13 e13
  have e13 : T13 = nw (nw (cn s2 595 [5, 4, 3, 2, 1, 0] 40) 595 597 10) 597 598 6 := e13
  rw [e13, pth_pth (by decide) (by decide)]
  refine ⟨rfl, show (599 : Int) ≤ 608 by decide, ?_⟩
  intro T14 e14 h15 e15
  have t0 : T14.2 9 4 0 = 5 := by
    rw [e14]
    show sclr (nw (nw (cn s2 595 [5, 4, 3, 2, 1, 0] 40) 595 597 10) 597 598 6).2 598 9 4 0 = 5
    rw [sclr_ne (by decide)]
    exact r2.rd (by decide) 0 (by decide) rfl (by decide)
  have t3 : T14.2 9 4 3 = 14 := by
    rw [e14]
    show sclr (nw (nw (cn s2 595 [5, 4, 3, 2, 1, 0] 40) 595 597 10) 597 598 6).2 598 9 4 3 = 14
    rw [sclr_ne (by decide)]
    exact r2.rd (by decide) 3 (by decide) rfl (by decide)
  have t10 : T14.2 9 4 10 = 595 := by
    rw [e14]
    show sclr (nw (nw (cn s2 595 [5, 4, 3, 2, 1, 0] 40) 595 597 10) 597 598 6).2 598 9 4 10 = 595
    rw [sclr_ne (by decide)]
    exact r2.rd (by decide) 10 (by decide) rfl (by decide)
  rw [t0, t3, t10]
  refine ⟨show (598 : Int) ≠ 0 by decide, pt (599, sclr (nw (nw (cn s2 595 [5, 4, 3, 2, 1, 0] 40) 595 597 10) 597 598 6).2 598) 598 603, by rw [e14]; show (599 : Int) ≤ 603; decide, show (603 : Int) ≤ 608 by decide, ?_⟩
  rw [e14, e15]
  refine k_Matcher rfl ?_
  intro T19 e19
  have e19 : T19 = nw (nw (nw (cn s2 595 [5, 4, 3, 2, 1, 0] 40) 595 597 10) 597 598 6) 598 603 7 := e19
  rw [e19, pth_pth (by decide) (by decide)]
  refine ⟨rfl, show (604 : Int) ≤ 608 by decide, ?_⟩
  intro T20 e20 h21 e21
  have t7 : T20.2 9 4 7 = 598 := by
    rw [e20]
    show sclr (nw (nw (nw (cn s2 595 [5, 4, 3, 2, 1, 0] 40) 595 597 10) 597 598 6) 598 603 7).2 603 9 4 7 = 598
    rw [sclr_ne (by decide)]
    exact r3.rd (by decide) 7 (by decide) rfl (by decide)
  have t3 : T20.2 9 4 3 = 14 := by
    rw [e20]
    show sclr (nw (nw (nw (cn s2 595 [5, 4, 3, 2, 1, 0] 40) 595 597 10) 597 598 6) 598 603 7).2 603 9 4 3 = 14
    rw [sclr_ne (by decide)]
    exact r3.rd (by decide) 3 (by decide) rfl (by decide)
  have t10 : T20.2 9 4 10 = 595 := by
    rw [e20]
    show sclr (nw (nw (nw (cn s2 595 [5, 4, 3, 2, 1, 0] 40) 595 597 10) 597 598 6) 598 603 7).2 603 9 4 10 = 595
    rw [sclr_ne (by decide)]
    exact r3.rd (by decide) 10 (by decide) rfl (by decide)
  rw [t7, t3, t10]
  refine ⟨show (603 : Int) ≠ 0 by decide, pt (604, sclr (nw (nw (nw (cn s2 595 [5, 4, 3, 2, 1, 0] 40) 595 597 10) 597 598 6) 598 603 7).2 603) 603 605, by rw [e20]; show (604 : Int) ≤ 605; decide, show (605 : Int) ≤ 608 by decide, ?_⟩
  rw [e20, e21]
  refine k_Findings rfl ?_
  intro T25 e25
  have e25 : T25 = nw (nw (nw (nw (cn s2 595 [5, 4, 3, 2, 1, 0] 40) 595 597 10) 597 598 6) 598 603 7) 603 605 9 := e25
  rw [e25, pth_pth (by decide) (by decide)]
  refine ⟨rfl, show (606 : Int) ≤ 608 by decide, ?_⟩
  intro T26 e26 h27 e27
  have t0 : T26.2 9 4 0 = 5 := by
    rw [e26]
    show sclr (nw (nw (nw (nw (cn s2 595 [5, 4, 3, 2, 1, 0] 40) 595 597 10) 597 598 6) 598 603 7) 603 605 9).2 605 9 4 0 = 5
    rw [sclr_ne (by decide)]
    exact r4.rd (by decide) 0 (by decide) rfl (by decide)
  have t3 : T26.2 9 4 3 = 14 := by
    rw [e26]
    show sclr (nw (nw (nw (nw (cn s2 595 [5, 4, 3, 2, 1, 0] 40) 595 597 10) 597 598 6) 598 603 7) 603 605 9).2 605 9 4 3 = 14
    rw [sclr_ne (by decide)]
    exact r4.rd (by decide) 3 (by decide) rfl (by decide)
  have t5 : T26.2 9 4 5 = 34 := by
    rw [e26]
    show sclr (nw (nw (nw (nw (cn s2 595 [5, 4, 3, 2, 1, 0] 40) 595 597 10) 597 598 6) 598 603 7) 603 605 9).2 605 9 4 5 = 34
    rw [sclr_ne (by decide)]
    exact r4.rd (by decide) 5 (by decide) rfl (by decide)
  rw [t0, t3, t5]
  refine ⟨show (605 : Int) ≠ 0 by decide, pt (606, sclr (nw (nw (nw (nw (cn s2 595 [5, 4, 3, 2, 1, 0] 40) 595 597 10) 597 598 6) 598 603 7) 603 605 9).2 605) 605 607, by rw [e26]; show (606 : Int) ≤ 607; decide, show (607 : Int) ≤ 608 by decide, ?_⟩
  rw [e26, e27]
  refine k_Net rfl ?_
  intro T31 e31
  have e31 : T31 = sE s2 := e31
  rw [e31, pth_pth (by decide) (by decide)]
  refine ⟨rfl, show (608 : Int) ≤ 608 by decide, ?_⟩
  intro T32 e32 h33 e33 T34 e34
  refine ⟨by rw [e34, e32]; rfl, ?_⟩
  rw [e33]
  show Q (hclr (pth (hclr h 4) 5 607) 607)
  rw [hclr_pth (by decide) (show (608 : Int) = 607 + 1 by decide) (fun j => ini0 (by decide) (by decide) (by decide) (by decide) (by decide) (by decide)), pth_4 (by decide)]
  exact q
theorem k_RuleNet_l {s2 : Nat → Int → Int → Int} {Sb : Sx} {Q : Hp → Prop} (q : Q (pth h 4 608)) : ∀ (n : Nat) (y : Int), 0 ≤ y → y + n = 40 → LW g (d + 2) m9_init Sb (sF s2) (retV Q) 80 [some (LR 9 4), some (LI y)] [] (cn s2 (35 + 14 * y) [5, 4, 3, 2, 1, 0] y) (pth (hclr h 4) 5 (35 + 14 * y))
  | 0, y, y0, hy => by
    have : y = 40 := by omega
    subst this
    exact k_RuleNet_e q
  | n + 1, y, y0, hy => by
    have r0 : Seq (cn s2 (35 + 14 * y) [5, 4, 3, 2, 1, 0] y) (cn s2 (35 + 14 * y) [5, 4, 3, 2, 1, 0] y) := ⟨rfl, show 35 + 14 * y ≤ 663 by omega, fun _ _ _ _ _ _ _ => rfl, fun _ _ _ _ => rfl⟩
    have e34 : (cn s2 (35 + 14 * y) [5, 4, 3, 2, 1, 0] y).2 9 4 5 = 34 := rfl
    refine v9_init_80 ⟨fun c => absurd c (by omega), fun c => ?_⟩
    rw [e34]
    refine ⟨?_, by show 35 + 14 * y + 1 ≤ 608; omega, ?_⟩
    · show (SH (35 + 14 * y)).1 = 6
      rw [sh_pk (k := 0) (v := (6, 0)) y0 (by omega) (by decide) (by decide) (by omega) rfl]
    intro T50 e50 h51 e51
    refine ⟨by show 35 + 14 * y ≠ 0; omega, pt (35 + 14 * y + 1, sclr (cn s2 (35 + 14 * y) [5, 4, 3, 2, 1, 0] y).2 (35 + 14 * y)) (35 + 14 * y) (35 + 14 * y + 14), by rw [e50]; show 35 + 14 * y + 1 ≤ 35 + 14 * y + 14; omega, by show 35 + 14 * y + 14 ≤ 608; omega, ?_⟩
    rw [e50, e51]
    refine k_Pattern (b := 35 + 14 * y) y0 (by omega) rfl rfl ?_
    refine ⟨by decide, y0, by show y < 40; omega, ?_⟩
    intro T55 e55
    rw [e55, w32_id (by omega) (by omega), pth_pth (by omega) (by omega)]
    refine LW.conv (Seq.pat y0 (by omega)) ?_
    have := k_RuleNet_l (s2 := s2) (Sb := Sb) q n (y + 1) (by omega) (by omega)
    rw [show 35 + 14 * (y + 1) = 35 + 14 * y + 14 by omega] at this ⊢
    exact this
theorem k_RuleNet {S : Sx} {Q : Hp → Prop} (hS : S.1 = 5) (hz : ∀ k : Int, S.2 9 4 k = 0) (q : Q (pth h 4 608)) : Good g (d + 3) i9_init [LR 9 4] S (hclr h 4) (pt S 4 608) (retV Q) := by
  obtain ⟨s1, s2⟩ := S
  have hS : s1 = 5 := hS
  subst hS
  refine Good.conv (S' := sF s2) (sF_q s2 5) (g9_init (show (5 : Int) ≤ 608 by decide) (v9_init ?_))
  have r0 : Seq (5, s2) (cn s2 5 [] 0) := by
    refine ⟨rfl, show (5 : Int) ≤ 663 by decide, fun a a0 a1 ht k hk hkd => ?_, fun z => ?_⟩
    · have a1 : a < 5 := a1
      rcases (show a = 1 ∨ a = 2 ∨ a = 3 ∨ a = 4 by omega) with rfl | rfl | rfl | rfl
      · exact absurd ht (by decide)
      · exact absurd ht (by decide)
      · exact absurd ht (by decide)
      · exact hz k
    · exact absurd z (show ¬ (34 : Int) < 5 by decide)
  have r1 := r0.nw (k := 0) (n' := 10) (by decide) (by decide) (by decide) (by decide) (n9_a (by decide) (by decide)) rfl
  have r2 := r1.nw (k := 1) (n' := 12) (by decide) (by decide) (by decide) (by decide) (n9_a (by decide) (by decide)) rfl
  have r3 := r2.nw (k := 2) (n' := 14) (by decide) (by decide) (by decide) (by decide) (n9_a (by decide) (by decide)) rfl
  have r4 := r3.nw (k := 3) (n' := 24) (by decide) (by decide) (by decide) (by decide) (n9_a (by decide) (by decide)) rfl
  have r5 := r4.nw (k := 4) (n' := 34) (by decide) (by decide) (by decide) (by decide) (n9_a (by decide) (by decide)) rfl
  refine ⟨rfl, show (6 : Int) ≤ 608 by decide, ?_⟩
  intro T1 e1 h2 e2
  refine ⟨show (5 : Int) ≠ 0 by decide, pt (6, sclr (5, s2).2 5) 5 10, by rw [e1]; show (6 : Int) ≤ 10; decide, show (10 : Int) ≤ 608 by decide, ?_⟩
  rw [e1, e2]
  refine k_Heads rfl ?_
  intro T6 e6
  have e6 : T6 = (nw (5, s2) 5 10 0) := e6
  rw [e6]
  refine ⟨rfl, show (11 : Int) ≤ 608 by decide, ?_⟩
  intro T1 e1 h2 e2
  refine ⟨show (10 : Int) ≠ 0 by decide, pt (11, sclr (nw (5, s2) 5 10 0).2 10) 10 12, by rw [e1]; show (11 : Int) ≤ 12; decide, show (12 : Int) ≤ 608 by decide, ?_⟩
  rw [e1, e2]
  refine k_Text (t := 10) (c := 1000) (by decide) (by decide) rfl rfl rfl (by decide) (fun a j a0 a1 => ini0 (by omega) (by omega) (by omega) (by omega) (by omega) (by omega)) ?_
  intro T6 e6
  have e6 : T6 = (nw (nw (5, s2) 5 10 0) 10 12 1) := e6
  rw [e6]
  rw [show pth (pth (hclr h 4) 5 10) 10 (10 + 2) = pth (hclr h 4) 5 12 from pth_pth (by decide) (by decide)]
  refine ⟨rfl, show (13 : Int) ≤ 608 by decide, ?_⟩
  intro T1 e1 h2 e2
  refine ⟨show (12 : Int) ≠ 0 by decide, pt (13, sclr (nw (nw (5, s2) 5 10 0) 10 12 1).2 12) 12 14, by rw [e1]; show (13 : Int) ≤ 14; decide, show (14 : Int) ≤ 608 by decide, ?_⟩
  rw [e1, e2]
  refine k_Text (t := 12) (c := 3000) (by decide) (by decide) rfl rfl rfl (by decide) (fun a j a0 a1 => ini0 (by omega) (by omega) (by omega) (by omega) (by omega) (by omega)) ?_
  intro T6 e6
  have e6 : T6 = (nw (nw (nw (5, s2) 5 10 0) 10 12 1) 12 14 2) := e6
  rw [e6]
  rw [show pth (pth (hclr h 4) 5 12) 12 (12 + 2) = pth (hclr h 4) 5 14 from pth_pth (by decide) (by decide)]
  refine ⟨rfl, show (15 : Int) ≤ 608 by decide, ?_⟩
  intro T1 e1 h2 e2
  refine ⟨show (14 : Int) ≠ 0 by decide, pt (15, sclr (nw (nw (nw (5, s2) 5 10 0) 10 12 1) 12 14 2).2 14) 14 24, by rw [e1]; show (15 : Int) ≤ 24; decide, show (24 : Int) ≤ 608 by decide, ?_⟩
  rw [e1, e2]
  refine k_Nodes (n := 14) (c := 120) (by decide) (by decide) rfl NA.tree (by decide) (fun a j a0 a1 => ini0 (by omega) (by omega) (by omega) (by omega) (by omega) (by omega)) ?_
  intro T6 e6
  have e6 : T6 = (nw (nw (nw (nw (5, s2) 5 10 0) 10 12 1) 12 14 2) 14 24 3) := e6
  rw [e6]
  rw [show pth (pth (hclr h 4) 5 14) 14 (14 + 10) = pth (hclr h 4) 5 24 from pth_pth (by decide) (by decide)]
  refine ⟨rfl, show (25 : Int) ≤ 608 by decide, ?_⟩
  intro T1 e1 h2 e2
  refine ⟨show (24 : Int) ≠ 0 by decide, pt (25, sclr (nw (nw (nw (nw (5, s2) 5 10 0) 10 12 1) 12 14 2) 14 24 3).2 24) 24 34, by rw [e1]; show (25 : Int) ≤ 34; decide, show (34 : Int) ≤ 608 by decide, ?_⟩
  rw [e1, e2]
  refine k_Nodes (n := 24) (c := 120) (by decide) (by decide) rfl NA.draft (by decide) (fun a j a0 a1 => ini0 (by omega) (by omega) (by omega) (by omega) (by omega) (by omega)) ?_
  intro T6 e6
  have e6 : T6 = (nw (nw (nw (nw (nw (5, s2) 5 10 0) 10 12 1) 12 14 2) 14 24 3) 24 34 4) := e6
  rw [e6]
  rw [show pth (pth (hclr h 4) 5 24) 24 (24 + 10) = pth (hclr h 4) 5 34 from pth_pth (by decide) (by decide)]
  refine ⟨rfl, show (35 : Int) ≤ 608 by decide, ?_⟩
  intro T31 e31 h32 e32 T33 e33
  have eh : h32 = pth (hclr h 4) 5 (35 + 14 * 0) := by
    rw [e32]
    exact hclr_pth (by decide) (by decide) (fun j => ini0 (by decide) (by decide) (by decide) (by decide) (by decide) (by decide))
  have e33 : T33 = (35, sup (sclr (nw (nw (nw (nw (nw (5, s2) 5 10 0) 10 12 1) 12 14 2) 14 24 3) 24 34 4).2 34) 9 4 5 34) := by rw [e33, e31]; rfl
  rw [eh, e33]
  exact LW.conv (Seq.ar r5) (k_RuleNet_l q 40 0 (by decide) (by decide))
end
