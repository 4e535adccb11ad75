/-! THE REFERENCE'S CONSTRUCTOR -/
def ksM : List Int := [1, 3, 4, 5, 6, 8, 9, 10, 11, 12, 13, 14, 15, 16, 25, 26, 29, 30, 31, 32, 33, 34, 35, 36, 37, 38, 39, 40, 43, 44, 45, 46, 48, 49, 50, 52, 53, 54, 55, 56, 57, 58, 59, 65, 67, 68, 69, 70, 71, 72, 74, 75, 77, 78]
def sM (s2 : Nat → Int → Int → Int) : Sx := alL (609, s2) 10 608 ksM
theorem hcl_s {H h1 h2 : Hp} {lo hi hi' n : Int} (e1 : h1 = hcl H lo hi) (e2 : h2 = hclr h1 n) (e3 : n = hi) (hl : lo ≤ hi) (e4 : hi' = hi + 1) : h2 = hcl H lo hi' := by
  rw [e2, e1, e3, hcl_1 _ _ _ hl, e4]
theorem al_st {S T2 T4 : Sx} {t : Nat} {a k : Int} {ks : List Int} (e2 : T2 = (S.1 + 1, sclr S.2 S.1)) (e4 : T4 = (T2.1, sup T2.2 t a k S.1)) : alL T4 t a ks = alL S t a (k :: ks) := by
  subst e2
  subst e4
  rfl
theorem al_n {S T2 T4 : Sx} {t : Nat} {a k n n' : Int} (e2 : T2 = (S.1 + 1, sclr S.2 S.1)) (e4 : T4 = (T2.1, sup T2.2 t a k S.1)) (hn : S.1 = n) (e : n' = n + 1) : T4.1 = n' := by
  subst e2
  subst e4
  show S.1 + 1 = n'
  rw [hn, e]
section
variable {g : Gl} {d : Nat} {h : Hp}
set_option maxRecDepth 20000 in
theorem k_Model {S : Sx} {Q : Hp → Prop} (hS : S.1 = 609) (q : Q (pth h 608 663)) : Good g (d + 1) i10_init [LR 10 608] S (hclr h 608) (pt S 608 663) (retV Q) := by
  obtain ⟨s1, s2⟩ := S
  have hS : s1 = 609 := hS
  subst hS
  have e9 : (sM s2).1 = 663 := by unfold sM; rw [alL_1]; rfl
  refine Good.conv (S' := sM s2) ?_ (g10_init (by rw [e9]; show (609 : Int) ≤ 663; decide) (v10_init ?_))
  · refine Seq.obj e9 (by decide) (by decide) (fun b h1 h2 => ?_) (fun u b j hb => alL_old 10 608 _ _ u b j (by show b < 609; omega) (by omega)) (fun ht k hk hkd => ?_) (fun _ _ => trivial) (fun z => by omega)
    · have : ∀ i : Nat, i < 54 → ¬ (SH (609 + (i : Int))).1 < 20 := by decide
      have := this (b - 609).toNat (by omega)
      rw [show 609 + (((b - 609).toNat : Nat) : Int) = b by omega] at this
      exact ⟨by omega, this⟩
    · have hk : k < 80 := hk
      have key : ∀ k : Nat, k < 80 → (fkt 10 k).1 = 3 → ksM[ksM.idxOf (k : Int)]? = some (k : Int) ∧ 609 + (ksM.idxOf (k : Int) : Int) = RC 10 608 k := by decide
      have hh := key k hk hkd
      exact al_i ksM _ k _ (show (608 : Int) < 609 by decide) (by decide) hh.1 hh.2
  · generalize hS9 : sM s2 = S9 at e9 ⊢
    have a0 : alL (609, s2) 10 608 [1, 3, 4, 5, 6, 8, 9, 10, 11, 12, 13, 14, 15, 16, 25, 26, 29, 30, 31, 32, 33, 34, 35, 36, 37, 38, 39, 40, 43, 44, 45, 46, 48, 49, 50, 52, 53, 54, 55, 56, 57, 58, 59, 65, 67, 68, 69, 70, 71, 72, 74, 75, 77, 78] = S9 := hS9
    clear hS9
    generalize hT : ((609, s2) : Sx) = T at a0 ⊢
    have n0 : T.1 = 609 := by rw [← hT]
    clear hT
    intro h1 eh
    have g0 : h1 = hcl (hup (hclr h 608) 608 0 1) 609 609 := by rw [eh, hcl_0]
    clear eh
    refine ⟨by rw [n0]; rfl, by rw [n0, e9]; decide, ?_⟩
    intro T2 e2 k0 ek U0 e4
    have n0x : U0.1 = 610 := al_n e2 e4 n0 (by decide)
    have a0x : alL U0 10 608 [3, 4, 5, 6, 8, 9, 10, 11, 12, 13, 14, 15, 16, 25, 26, 29, 30, 31, 32, 33, 34, 35, 36, 37, 38, 39, 40, 43, 44, 45, 46, 48, 49, 50, 52, 53, 54, 55, 56, 57, 58, 59, 65, 67, 68, 69, 70, 71, 72, 74, 75, 77, 78] = S9 := (al_st e2 e4).trans a0
    have g0x : k0 = hcl (hup (hclr h 608) 608 0 1) 609 610 := hcl_s g0 ek n0 (by decide) (by decide)
    clear e4 e2 ek g0 a0 n0
    clear T2 T h1
    refine ⟨by rw [n0x]; rfl, by rw [n0x, e9]; decide, ?_⟩
    intro T2 e2 k1 ek U1 e4
    have n1x : U1.1 = 611 := al_n e2 e4 n0x (by decide)
    have a1x : alL U1 10 608 [4, 5, 6, 8, 9, 10, 11, 12, 13, 14, 15, 16, 25, 26, 29, 30, 31, 32, 33, 34, 35, 36, 37, 38, 39, 40, 43, 44, 45, 46, 48, 49, 50, 52, 53, 54, 55, 56, 57, 58, 59, 65, 67, 68, 69, 70, 71, 72, 74, 75, 77, 78] = S9 := (al_st e2 e4).trans a0x
    have g1x : k1 = hcl (hup (hclr h 608) 608 0 1) 609 611 := hcl_s g0x ek n0x (by decide) (by decide)
    clear e4 e2 ek g0x a0x n0x
    clear T2 U0 k0
    refine ⟨by rw [n1x]; rfl, by rw [n1x, e9]; decide, ?_⟩
    intro T2 e2 k2 ek U2 e4
    have n2x : U2.1 = 612 := al_n e2 e4 n1x (by decide)
    have a2x : alL U2 10 608 [5, 6, 8, 9, 10, 11, 12, 13, 14, 15, 16, 25, 26, 29, 30, 31, 32, 33, 34, 35, 36, 37, 38, 39, 40, 43, 44, 45, 46, 48, 49, 50, 52, 53, 54, 55, 56, 57, 58, 59, 65, 67, 68, 69, 70, 71, 72, 74, 75, 77, 78] = S9 := (al_st e2 e4).trans a1x
    have g2x : k2 = hcl (hup (hclr h 608) 608 0 1) 609 612 := hcl_s g1x ek n1x (by decide) (by decide)
    clear e4 e2 ek g1x a1x n1x
    clear T2 U1 k1
    refine ⟨by rw [n2x]; rfl, by rw [n2x, e9]; decide, ?_⟩
    intro T2 e2 k3 ek U3 e4
    have n3x : U3.1 = 613 := al_n e2 e4 n2x (by decide)
    have a3x : alL U3 10 608 [6, 8, 9, 10, 11, 12, 13, 14, 15, 16, 25, 26, 29, 30, 31, 32, 33, 34, 35, 36, 37, 38, 39, 40, 43, 44, 45, 46, 48, 49, 50, 52, 53, 54, 55, 56, 57, 58, 59, 65, 67, 68, 69, 70, 71, 72, 74, 75, 77, 78] = S9 := (al_st e2 e4).trans a2x
    have g3x : k3 = hcl (hup (hclr h 608) 608 0 1) 609 613 := hcl_s g2x ek n2x (by decide) (by decide)
    clear e4 e2 ek g2x a2x n2x
    clear T2 U2 k2
    refine ⟨by rw [n3x]; rfl, by rw [n3x, e9]; decide, ?_⟩
    intro T2 e2 k4 ek U4 e4
    have n4x : U4.1 = 614 := al_n e2 e4 n3x (by decide)
    have a4x : alL U4 10 608 [8, 9, 10, 11, 12, 13, 14, 15, 16, 25, 26, 29, 30, 31, 32, 33, 34, 35, 36, 37, 38, 39, 40, 43, 44, 45, 46, 48, 49, 50, 52, 53, 54, 55, 56, 57, 58, 59, 65, 67, 68, 69, 70, 71, 72, 74, 75, 77, 78] = S9 := (al_st e2 e4).trans a3x
    have g4x : k4 = hcl (hup (hclr h 608) 608 0 1) 609 614 := hcl_s g3x ek n3x (by decide) (by decide)
    clear e4 e2 ek g3x a3x n3x
    clear T2 U3 k3
    refine ⟨by rw [n4x]; rfl, by rw [n4x, e9]; decide, ?_⟩
    intro T2 e2 k5 ek U5 e4
    have n5x : U5.1 = 615 := al_n e2 e4 n4x (by decide)
    have a5x : alL U5 10 608 [9, 10, 11, 12, 13, 14, 15, 16, 25, 26, 29, 30, 31, 32, 33, 34, 35, 36, 37, 38, 39, 40, 43, 44, 45, 46, 48, 49, 50, 52, 53, 54, 55, 56, 57, 58, 59, 65, 67, 68, 69, 70, 71, 72, 74, 75, 77, 78] = S9 := (al_st e2 e4).trans a4x
    have g5x : k5 = hcl (hup (hclr h 608) 608 0 1) 609 615 := hcl_s g4x ek n4x (by decide) (by decide)
    clear e4 e2 ek g4x a4x n4x
    clear T2 U4 k4
    refine ⟨by rw [n5x]; rfl, by rw [n5x, e9]; decide, ?_⟩
    intro T2 e2 k6 ek U6 e4
    have n6x : U6.1 = 616 := al_n e2 e4 n5x (by decide)
    have a6x : alL U6 10 608 [10, 11, 12, 13, 14, 15, 16, 25, 26, 29, 30, 31, 32, 33, 34, 35, 36, 37, 38, 39, 40, 43, 44, 45, 46, 48, 49, 50, 52, 53, 54, 55, 56, 57, 58, 59, 65, 67, 68, 69, 70, 71, 72, 74, 75, 77, 78] = S9 := (al_st e2 e4).trans a5x
    have g6x : k6 = hcl (hup (hclr h 608) 608 0 1) 609 616 := hcl_s g5x ek n5x (by decide) (by decide)
    clear e4 e2 ek g5x a5x n5x
    clear T2 U5 k5
    refine ⟨by rw [n6x]; rfl, by rw [n6x, e9]; decide, ?_⟩
    intro T2 e2 k7 ek U7 e4
    have n7x : U7.1 = 617 := al_n e2 e4 n6x (by decide)
    have a7x : alL U7 10 608 [11, 12, 13, 14, 15, 16, 25, 26, 29, 30, 31, 32, 33, 34, 35, 36, 37, 38, 39, 40, 43, 44, 45, 46, 48, 49, 50, 52, 53, 54, 55, 56, 57, 58, 59, 65, 67, 68, 69, 70, 71, 72, 74, 75, 77, 78] = S9 := (al_st e2 e4).trans a6x
    have g7x : k7 = hcl (hup (hclr h 608) 608 0 1) 609 617 := hcl_s g6x ek n6x (by decide) (by decide)
    clear e4 e2 ek g6x a6x n6x
    clear T2 U6 k6
    refine ⟨by rw [n7x]; rfl, by rw [n7x, e9]; decide, ?_⟩
    intro T2 e2 k8 ek U8 e4
    have n8x : U8.1 = 618 := al_n e2 e4 n7x (by decide)
    have a8x : alL U8 10 608 [12, 13, 14, 15, 16, 25, 26, 29, 30, 31, 32, 33, 34, 35, 36, 37, 38, 39, 40, 43, 44, 45, 46, 48, 49, 50, 52, 53, 54, 55, 56, 57, 58, 59, 65, 67, 68, 69, 70, 71, 72, 74, 75, 77, 78] = S9 := (al_st e2 e4).trans a7x
    have g8x : k8 = hcl (hup (hclr h 608) 608 0 1) 609 618 := hcl_s g7x ek n7x (by decide) (by decide)
    clear e4 e2 ek g7x a7x n7x
    clear T2 U7 k7
    refine ⟨by rw [n8x]; rfl, by rw [n8x, e9]; decide, ?_⟩
    intro T2 e2 k9 ek U9 e4
    have n9x : U9.1 = 619 := al_n e2 e4 n8x (by decide)
    have a9x : alL U9 10 608 [13, 14, 15, 16, 25, 26, 29, 30, 31, 32, 33, 34, 35, 36, 37, 38, 39, 40, 43, 44, 45, 46, 48, 49, 50, 52, 53, 54, 55, 56, 57, 58, 59, 65, 67, 68, 69, 70, 71, 72, 74, 75, 77, 78] = S9 := (al_st e2 e4).trans a8x
    have g9x : k9 = hcl (hup (hclr h 608) 608 0 1) 609 619 := hcl_s g8x ek n8x (by decide) (by decide)
    clear e4 e2 ek g8x a8x n8x
    clear T2 U8 k8
    refine ⟨by rw [n9x]; rfl, by rw [n9x, e9]; decide, ?_⟩
    intro T2 e2 k10 ek U10 e4
    have n10x : U10.1 = 620 := al_n e2 e4 n9x (by decide)
    have a10x : alL U10 10 608 [14, 15, 16, 25, 26, 29, 30, 31, 32, 33, 34, 35, 36, 37, 38, 39, 40, 43, 44, 45, 46, 48, 49, 50, 52, 53, 54, 55, 56, 57, 58, 59, 65, 67, 68, 69, 70, 71, 72, 74, 75, 77, 78] = S9 := (al_st e2 e4).trans a9x
    have g10x : k10 = hcl (hup (hclr h 608) 608 0 1) 609 620 := hcl_s g9x ek n9x (by decide) (by decide)
    clear e4 e2 ek g9x a9x n9x
    clear T2 U9 k9
    refine ⟨by rw [n10x]; rfl, by rw [n10x, e9]; decide, ?_⟩
    intro T2 e2 k11 ek U11 e4
    have n11x : U11.1 = 621 := al_n e2 e4 n10x (by decide)
    have a11x : alL U11 10 608 [15, 16, 25, 26, 29, 30, 31, 32, 33, 34, 35, 36, 37, 38, 39, 40, 43, 44, 45, 46, 48, 49, 50, 52, 53, 54, 55, 56, 57, 58, 59, 65, 67, 68, 69, 70, 71, 72, 74, 75, 77, 78] = S9 := (al_st e2 e4).trans a10x
    have g11x : k11 = hcl (hup (hclr h 608) 608 0 1) 609 621 := hcl_s g10x ek n10x (by decide) (by decide)
    clear e4 e2 ek g10x a10x n10x
    clear T2 U10 k10
    refine ⟨by rw [n11x]; rfl, by rw [n11x, e9]; decide, ?_⟩
    intro T2 e2 k12 ek U12 e4
    have n12x : U12.1 = 622 := al_n e2 e4 n11x (by decide)
    have a12x : alL U12 10 608 [16, 25, 26, 29, 30, 31, 32, 33, 34, 35, 36, 37, 38, 39, 40, 43, 44, 45, 46, 48, 49, 50, 52, 53, 54, 55, 56, 57, 58, 59, 65, 67, 68, 69, 70, 71, 72, 74, 75, 77, 78] = S9 := (al_st e2 e4).trans a11x
    have g12x : k12 = hcl (hup (hclr h 608) 608 0 1) 609 622 := hcl_s g11x ek n11x (by decide) (by decide)
    clear e4 e2 ek g11x a11x n11x
    clear T2 U11 k11
    refine ⟨by rw [n12x]; rfl, by rw [n12x, e9]; decide, ?_⟩
    intro T2 e2 k13 ek U13 e4
    have n13x : U13.1 = 623 := al_n e2 e4 n12x (by decide)
    have a13x : alL U13 10 608 [25, 26, 29, 30, 31, 32, 33, 34, 35, 36, 37, 38, 39, 40, 43, 44, 45, 46, 48, 49, 50, 52, 53, 54, 55, 56, 57, 58, 59, 65, 67, 68, 69, 70, 71, 72, 74, 75, 77, 78] = S9 := (al_st e2 e4).trans a12x
    have g13x : k13 = hcl (hup (hclr h 608) 608 0 1) 609 623 := hcl_s g12x ek n12x (by decide) (by decide)
    clear e4 e2 ek g12x a12x n12x
    clear T2 U12 k12
    intro k14 ek
    have g14x : k14 = hcl (hup (hcl (hup (hclr h 608) 608 0 1) 609 623) 608 23 (-1)) 623 623 := by rw [ek, g13x, hcl_0]
    clear ek g13x
    clear k13
    refine ⟨by rw [n13x]; rfl, by rw [n13x, e9]; decide, ?_⟩
    intro T2 e2 k15 ek U15 e4
    have n15x : U15.1 = 624 := al_n e2 e4 n13x (by decide)
    have a15x : alL U15 10 608 [26, 29, 30, 31, 32, 33, 34, 35, 36, 37, 38, 39, 40, 43, 44, 45, 46, 48, 49, 50, 52, 53, 54, 55, 56, 57, 58, 59, 65, 67, 68, 69, 70, 71, 72, 74, 75, 77, 78] = S9 := (al_st e2 e4).trans a13x
    have g15x : k15 = hcl (hup (hcl (hup (hclr h 608) 608 0 1) 609 623) 608 23 (-1)) 623 624 := hcl_s g14x ek n13x (by decide) (by decide)
    clear e4 e2 ek g14x a13x n13x
    clear T2 U13 k14
    refine ⟨by rw [n15x]; rfl, by rw [n15x, e9]; decide, ?_⟩
    intro T2 e2 k16 ek U16 e4
    have n16x : U16.1 = 625 := al_n e2 e4 n15x (by decide)
    have a16x : alL U16 10 608 [29, 30, 31, 32, 33, 34, 35, 36, 37, 38, 39, 40, 43, 44, 45, 46, 48, 49, 50, 52, 53, 54, 55, 56, 57, 58, 59, 65, 67, 68, 69, 70, 71, 72, 74, 75, 77, 78] = S9 := (al_st e2 e4).trans a15x
    have g16x : k16 = hcl (hup (hcl (hup (hclr h 608) 608 0 1) 609 623) 608 23 (-1)) 623 625 := hcl_s g15x ek n15x (by decide) (by decide)
    clear e4 e2 ek g15x a15x n15x
    clear T2 U15 k15
    refine ⟨by rw [n16x]; rfl, by rw [n16x, e9]; decide, ?_⟩
    intro T2 e2 k17 ek U17 e4
    have n17x : U17.1 = 626 := al_n e2 e4 n16x (by decide)
    have a17x : alL U17 10 608 [30, 31, 32, 33, 34, 35, 36, 37, 38, 39, 40, 43, 44, 45, 46, 48, 49, 50, 52, 53, 54, 55, 56, 57, 58, 59, 65, 67, 68, 69, 70, 71, 72, 74, 75, 77, 78] = S9 := (al_st e2 e4).trans a16x
    have g17x : k17 = hcl (hup (hcl (hup (hclr h 608) 608 0 1) 609 623) 608 23 (-1)) 623 626 := hcl_s g16x ek n16x (by decide) (by decide)
    clear e4 e2 ek g16x a16x n16x
    clear T2 U16 k16
    refine ⟨by rw [n17x]; rfl, by rw [n17x, e9]; decide, ?_⟩
    intro T2 e2 k18 ek U18 e4
    have n18x : U18.1 = 627 := al_n e2 e4 n17x (by decide)
    have a18x : alL U18 10 608 [31, 32, 33, 34, 35, 36, 37, 38, 39, 40, 43, 44, 45, 46, 48, 49, 50, 52, 53, 54, 55, 56, 57, 58, 59, 65, 67, 68, 69, 70, 71, 72, 74, 75, 77, 78] = S9 := (al_st e2 e4).trans a17x
    have g18x : k18 = hcl (hup (hcl (hup (hclr h 608) 608 0 1) 609 623) 608 23 (-1)) 623 627 := hcl_s g17x ek n17x (by decide) (by decide)
    clear e4 e2 ek g17x a17x n17x
    clear T2 U17 k17
    refine ⟨by rw [n18x]; rfl, by rw [n18x, e9]; decide, ?_⟩
    intro T2 e2 k19 ek U19 e4
    have n19x : U19.1 = 628 := al_n e2 e4 n18x (by decide)
    have a19x : alL U19 10 608 [32, 33, 34, 35, 36, 37, 38, 39, 40, 43, 44, 45, 46, 48, 49, 50, 52, 53, 54, 55, 56, 57, 58, 59, 65, 67, 68, 69, 70, 71, 72, 74, 75, 77, 78] = S9 := (al_st e2 e4).trans a18x
    have g19x : k19 = hcl (hup (hcl (hup (hclr h 608) 608 0 1) 609 623) 608 23 (-1)) 623 628 := hcl_s g18x ek n18x (by decide) (by decide)
    clear e4 e2 ek g18x a18x n18x
    clear T2 U18 k18
    refine ⟨by rw [n19x]; rfl, by rw [n19x, e9]; decide, ?_⟩
    intro T2 e2 k20 ek U20 e4
    have n20x : U20.1 = 629 := al_n e2 e4 n19x (by decide)
    have a20x : alL U20 10 608 [33, 34, 35, 36, 37, 38, 39, 40, 43, 44, 45, 46, 48, 49, 50, 52, 53, 54, 55, 56, 57, 58, 59, 65, 67, 68, 69, 70, 71, 72, 74, 75, 77, 78] = S9 := (al_st e2 e4).trans a19x
    have g20x : k20 = hcl (hup (hcl (hup (hclr h 608) 608 0 1) 609 623) 608 23 (-1)) 623 629 := hcl_s g19x ek n19x (by decide) (by decide)
    clear e4 e2 ek g19x a19x n19x
    clear T2 U19 k19
    refine ⟨by rw [n20x]; rfl, by rw [n20x, e9]; decide, ?_⟩
    intro T2 e2 k21 ek U21 e4
    have n21x : U21.1 = 630 := al_n e2 e4 n20x (by decide)
    have a21x : alL U21 10 608 [34, 35, 36, 37, 38, 39, 40, 43, 44, 45, 46, 48, 49, 50, 52, 53, 54, 55, 56, 57, 58, 59, 65, 67, 68, 69, 70, 71, 72, 74, 75, 77, 78] = S9 := (al_st e2 e4).trans a20x
    have g21x : k21 = hcl (hup (hcl (hup (hclr h 608) 608 0 1) 609 623) 608 23 (-1)) 623 630 := hcl_s g20x ek n20x (by decide) (by decide)
    clear e4 e2 ek g20x a20x n20x
    clear T2 U20 k20
    refine ⟨by rw [n21x]; rfl, by rw [n21x, e9]; decide, ?_⟩
    intro T2 e2 k22 ek U22 e4
    have n22x : U22.1 = 631 := al_n e2 e4 n21x (by decide)
    have a22x : alL U22 10 608 [35, 36, 37, 38, 39, 40, 43, 44, 45, 46, 48, 49, 50, 52, 53, 54, 55, 56, 57, 58, 59, 65, 67, 68, 69, 70, 71, 72, 74, 75, 77, 78] = S9 := (al_st e2 e4).trans a21x
    have g22x : k22 = hcl (hup (hcl (hup (hclr h 608) 608 0 1) 609 623) 608 23 (-1)) 623 631 := hcl_s g21x ek n21x (by decide) (by decide)
    clear e4 e2 ek g21x a21x n21x
    clear T2 U21 k21
    refine ⟨by rw [n22x]; rfl, by rw [n22x, e9]; decide, ?_⟩
    intro T2 e2 k23 ek U23 e4
    have n23x : U23.1 = 632 := al_n e2 e4 n22x (by decide)
    have a23x : alL U23 10 608 [36, 37, 38, 39, 40, 43, 44, 45, 46, 48, 49, 50, 52, 53, 54, 55, 56, 57, 58, 59, 65, 67, 68, 69, 70, 71, 72, 74, 75, 77, 78] = S9 := (al_st e2 e4).trans a22x
    have g23x : k23 = hcl (hup (hcl (hup (hclr h 608) 608 0 1) 609 623) 608 23 (-1)) 623 632 := hcl_s g22x ek n22x (by decide) (by decide)
    clear e4 e2 ek g22x a22x n22x
    clear T2 U22 k22
    refine ⟨by rw [n23x]; rfl, by rw [n23x, e9]; decide, ?_⟩
    intro T2 e2 k24 ek U24 e4
    have n24x : U24.1 = 633 := al_n e2 e4 n23x (by decide)
    have a24x : alL U24 10 608 [37, 38, 39, 40, 43, 44, 45, 46, 48, 49, 50, 52, 53, 54, 55, 56, 57, 58, 59, 65, 67, 68, 69, 70, 71, 72, 74, 75, 77, 78] = S9 := (al_st e2 e4).trans a23x
    have g24x : k24 = hcl (hup (hcl (hup (hclr h 608) 608 0 1) 609 623) 608 23 (-1)) 623 633 := hcl_s g23x ek n23x (by decide) (by decide)
    clear e4 e2 ek g23x a23x n23x
    clear T2 U23 k23
    refine ⟨by rw [n24x]; rfl, by rw [n24x, e9]; decide, ?_⟩
    intro T2 e2 k25 ek U25 e4
    have n25x : U25.1 = 634 := al_n e2 e4 n24x (by decide)
    have a25x : alL U25 10 608 [38, 39, 40, 43, 44, 45, 46, 48, 49, 50, 52, 53, 54, 55, 56, 57, 58, 59, 65, 67, 68, 69, 70, 71, 72, 74, 75, 77, 78] = S9 := (al_st e2 e4).trans a24x
    have g25x : k25 = hcl (hup (hcl (hup (hclr h 608) 608 0 1) 609 623) 608 23 (-1)) 623 634 := hcl_s g24x ek n24x (by decide) (by decide)
    clear e4 e2 ek g24x a24x n24x
    clear T2 U24 k24
    refine ⟨by rw [n25x]; rfl, by rw [n25x, e9]; decide, ?_⟩
    intro T2 e2 k26 ek U26 e4
    have n26x : U26.1 = 635 := al_n e2 e4 n25x (by decide)
    have a26x : alL U26 10 608 [39, 40, 43, 44, 45, 46, 48, 49, 50, 52, 53, 54, 55, 56, 57, 58, 59, 65, 67, 68, 69, 70, 71, 72, 74, 75, 77, 78] = S9 := (al_st e2 e4).trans a25x
    have g26x : k26 = hcl (hup (hcl (hup (hclr h 608) 608 0 1) 609 623) 608 23 (-1)) 623 635 := hcl_s g25x ek n25x (by decide) (by decide)
    clear e4 e2 ek g25x a25x n25x
    clear T2 U25 k25
    refine ⟨by rw [n26x]; rfl, by rw [n26x, e9]; decide, ?_⟩
    intro T2 e2 k27 ek U27 e4
    have n27x : U27.1 = 636 := al_n e2 e4 n26x (by decide)
    have a27x : alL U27 10 608 [40, 43, 44, 45, 46, 48, 49, 50, 52, 53, 54, 55, 56, 57, 58, 59, 65, 67, 68, 69, 70, 71, 72, 74, 75, 77, 78] = S9 := (al_st e2 e4).trans a26x
    have g27x : k27 = hcl (hup (hcl (hup (hclr h 608) 608 0 1) 609 623) 608 23 (-1)) 623 636 := hcl_s g26x ek n26x (by decide) (by decide)
    clear e4 e2 ek g26x a26x n26x
    clear T2 U26 k26
    refine ⟨by rw [n27x]; rfl, by rw [n27x, e9]; decide, ?_⟩
    intro T2 e2 k28 ek U28 e4
    have n28x : U28.1 = 637 := al_n e2 e4 n27x (by decide)
    have a28x : alL U28 10 608 [43, 44, 45, 46, 48, 49, 50, 52, 53, 54, 55, 56, 57, 58, 59, 65, 67, 68, 69, 70, 71, 72, 74, 75, 77, 78] = S9 := (al_st e2 e4).trans a27x
    have g28x : k28 = hcl (hup (hcl (hup (hclr h 608) 608 0 1) 609 623) 608 23 (-1)) 623 637 := hcl_s g27x ek n27x (by decide) (by decide)
    clear e4 e2 ek g27x a27x n27x
    clear T2 U27 k27
    refine ⟨by rw [n28x]; rfl, by rw [n28x, e9]; decide, ?_⟩
    intro T2 e2 k29 ek U29 e4
    have n29x : U29.1 = 638 := al_n e2 e4 n28x (by decide)
    have a29x : alL U29 10 608 [44, 45, 46, 48, 49, 50, 52, 53, 54, 55, 56, 57, 58, 59, 65, 67, 68, 69, 70, 71, 72, 74, 75, 77, 78] = S9 := (al_st e2 e4).trans a28x
    have g29x : k29 = hcl (hup (hcl (hup (hclr h 608) 608 0 1) 609 623) 608 23 (-1)) 623 638 := hcl_s g28x ek n28x (by decide) (by decide)
    clear e4 e2 ek g28x a28x n28x
    clear T2 U28 k28
    refine ⟨by rw [n29x]; rfl, by rw [n29x, e9]; decide, ?_⟩
    intro T2 e2 k30 ek U30 e4
    have n30x : U30.1 = 639 := al_n e2 e4 n29x (by decide)
    have a30x : alL U30 10 608 [45, 46, 48, 49, 50, 52, 53, 54, 55, 56, 57, 58, 59, 65, 67, 68, 69, 70, 71, 72, 74, 75, 77, 78] = S9 := (al_st e2 e4).trans a29x
    have g30x : k30 = hcl (hup (hcl (hup (hclr h 608) 608 0 1) 609 623) 608 23 (-1)) 623 639 := hcl_s g29x ek n29x (by decide) (by decide)
    clear e4 e2 ek g29x a29x n29x
    clear T2 U29 k29
    refine ⟨by rw [n30x]; rfl, by rw [n30x, e9]; decide, ?_⟩
    intro T2 e2 k31 ek U31 e4
    have n31x : U31.1 = 640 := al_n e2 e4 n30x (by decide)
    have a31x : alL U31 10 608 [46, 48, 49, 50, 52, 53, 54, 55, 56, 57, 58, 59, 65, 67, 68, 69, 70, 71, 72, 74, 75, 77, 78] = S9 := (al_st e2 e4).trans a30x
    have g31x : k31 = hcl (hup (hcl (hup (hclr h 608) 608 0 1) 609 623) 608 23 (-1)) 623 640 := hcl_s g30x ek n30x (by decide) (by decide)
    clear e4 e2 ek g30x a30x n30x
    clear T2 U30 k30
    refine ⟨by rw [n31x]; rfl, by rw [n31x, e9]; decide, ?_⟩
    intro T2 e2 k32 ek U32 e4
    have n32x : U32.1 = 641 := al_n e2 e4 n31x (by decide)
    have a32x : alL U32 10 608 [48, 49, 50, 52, 53, 54, 55, 56, 57, 58, 59, 65, 67, 68, 69, 70, 71, 72, 74, 75, 77, 78] = S9 := (al_st e2 e4).trans a31x
    have g32x : k32 = hcl (hup (hcl (hup (hclr h 608) 608 0 1) 609 623) 608 23 (-1)) 623 641 := hcl_s g31x ek n31x (by decide) (by decide)
    clear e4 e2 ek g31x a31x n31x
    clear T2 U31 k31
    refine ⟨by rw [n32x]; rfl, by rw [n32x, e9]; decide, ?_⟩
    intro T2 e2 k33 ek U33 e4
    have n33x : U33.1 = 642 := al_n e2 e4 n32x (by decide)
    have a33x : alL U33 10 608 [49, 50, 52, 53, 54, 55, 56, 57, 58, 59, 65, 67, 68, 69, 70, 71, 72, 74, 75, 77, 78] = S9 := (al_st e2 e4).trans a32x
    have g33x : k33 = hcl (hup (hcl (hup (hclr h 608) 608 0 1) 609 623) 608 23 (-1)) 623 642 := hcl_s g32x ek n32x (by decide) (by decide)
    clear e4 e2 ek g32x a32x n32x
    clear T2 U32 k32
    refine ⟨by rw [n33x]; rfl, by rw [n33x, e9]; decide, ?_⟩
    intro T2 e2 k34 ek U34 e4
    have n34x : U34.1 = 643 := al_n e2 e4 n33x (by decide)
    have a34x : alL U34 10 608 [50, 52, 53, 54, 55, 56, 57, 58, 59, 65, 67, 68, 69, 70, 71, 72, 74, 75, 77, 78] = S9 := (al_st e2 e4).trans a33x
    have g34x : k34 = hcl (hup (hcl (hup (hclr h 608) 608 0 1) 609 623) 608 23 (-1)) 623 643 := hcl_s g33x ek n33x (by decide) (by decide)
    clear e4 e2 ek g33x a33x n33x
    clear T2 U33 k33
    refine ⟨by rw [n34x]; rfl, by rw [n34x, e9]; decide, ?_⟩
    intro T2 e2 k35 ek U35 e4
    have n35x : U35.1 = 644 := al_n e2 e4 n34x (by decide)
    have a35x : alL U35 10 608 [52, 53, 54, 55, 56, 57, 58, 59, 65, 67, 68, 69, 70, 71, 72, 74, 75, 77, 78] = S9 := (al_st e2 e4).trans a34x
    have g35x : k35 = hcl (hup (hcl (hup (hclr h 608) 608 0 1) 609 623) 608 23 (-1)) 623 644 := hcl_s g34x ek n34x (by decide) (by decide)
    clear e4 e2 ek g34x a34x n34x
    clear T2 U34 k34
    refine ⟨by rw [n35x]; rfl, by rw [n35x, e9]; decide, ?_⟩
    intro T2 e2 k36 ek U36 e4
    have n36x : U36.1 = 645 := al_n e2 e4 n35x (by decide)
    have a36x : alL U36 10 608 [53, 54, 55, 56, 57, 58, 59, 65, 67, 68, 69, 70, 71, 72, 74, 75, 77, 78] = S9 := (al_st e2 e4).trans a35x
    have g36x : k36 = hcl (hup (hcl (hup (hclr h 608) 608 0 1) 609 623) 608 23 (-1)) 623 645 := hcl_s g35x ek n35x (by decide) (by decide)
    clear e4 e2 ek g35x a35x n35x
    clear T2 U35 k35
    refine ⟨by rw [n36x]; rfl, by rw [n36x, e9]; decide, ?_⟩
    intro T2 e2 k37 ek U37 e4
    have n37x : U37.1 = 646 := al_n e2 e4 n36x (by decide)
    have a37x : alL U37 10 608 [54, 55, 56, 57, 58, 59, 65, 67, 68, 69, 70, 71, 72, 74, 75, 77, 78] = S9 := (al_st e2 e4).trans a36x
    have g37x : k37 = hcl (hup (hcl (hup (hclr h 608) 608 0 1) 609 623) 608 23 (-1)) 623 646 := hcl_s g36x ek n36x (by decide) (by decide)
    clear e4 e2 ek g36x a36x n36x
    clear T2 U36 k36
    refine ⟨by rw [n37x]; rfl, by rw [n37x, e9]; decide, ?_⟩
    intro T2 e2 k38 ek U38 e4
    have n38x : U38.1 = 647 := al_n e2 e4 n37x (by decide)
    have a38x : alL U38 10 608 [55, 56, 57, 58, 59, 65, 67, 68, 69, 70, 71, 72, 74, 75, 77, 78] = S9 := (al_st e2 e4).trans a37x
    have g38x : k38 = hcl (hup (hcl (hup (hclr h 608) 608 0 1) 609 623) 608 23 (-1)) 623 647 := hcl_s g37x ek n37x (by decide) (by decide)
    clear e4 e2 ek g37x a37x n37x
    clear T2 U37 k37
    refine ⟨by rw [n38x]; rfl, by rw [n38x, e9]; decide, ?_⟩
    intro T2 e2 k39 ek U39 e4
    have n39x : U39.1 = 648 := al_n e2 e4 n38x (by decide)
    have a39x : alL U39 10 608 [56, 57, 58, 59, 65, 67, 68, 69, 70, 71, 72, 74, 75, 77, 78] = S9 := (al_st e2 e4).trans a38x
    have g39x : k39 = hcl (hup (hcl (hup (hclr h 608) 608 0 1) 609 623) 608 23 (-1)) 623 648 := hcl_s g38x ek n38x (by decide) (by decide)
    clear e4 e2 ek g38x a38x n38x
    clear T2 U38 k38
    refine ⟨by rw [n39x]; rfl, by rw [n39x, e9]; decide, ?_⟩
    intro T2 e2 k40 ek U40 e4
    have n40x : U40.1 = 649 := al_n e2 e4 n39x (by decide)
    have a40x : alL U40 10 608 [57, 58, 59, 65, 67, 68, 69, 70, 71, 72, 74, 75, 77, 78] = S9 := (al_st e2 e4).trans a39x
    have g40x : k40 = hcl (hup (hcl (hup (hclr h 608) 608 0 1) 609 623) 608 23 (-1)) 623 649 := hcl_s g39x ek n39x (by decide) (by decide)
    clear e4 e2 ek g39x a39x n39x
    clear T2 U39 k39
    refine ⟨by rw [n40x]; rfl, by rw [n40x, e9]; decide, ?_⟩
    intro T2 e2 k41 ek U41 e4
    have n41x : U41.1 = 650 := al_n e2 e4 n40x (by decide)
    have a41x : alL U41 10 608 [58, 59, 65, 67, 68, 69, 70, 71, 72, 74, 75, 77, 78] = S9 := (al_st e2 e4).trans a40x
    have g41x : k41 = hcl (hup (hcl (hup (hclr h 608) 608 0 1) 609 623) 608 23 (-1)) 623 650 := hcl_s g40x ek n40x (by decide) (by decide)
    clear e4 e2 ek g40x a40x n40x
    clear T2 U40 k40
    refine ⟨by rw [n41x]; rfl, by rw [n41x, e9]; decide, ?_⟩
    intro T2 e2 k42 ek U42 e4
    have n42x : U42.1 = 651 := al_n e2 e4 n41x (by decide)
    have a42x : alL U42 10 608 [59, 65, 67, 68, 69, 70, 71, 72, 74, 75, 77, 78] = S9 := (al_st e2 e4).trans a41x
    have g42x : k42 = hcl (hup (hcl (hup (hclr h 608) 608 0 1) 609 623) 608 23 (-1)) 623 651 := hcl_s g41x ek n41x (by decide) (by decide)
    clear e4 e2 ek g41x a41x n41x
    clear T2 U41 k41
    refine ⟨by rw [n42x]; rfl, by rw [n42x, e9]; decide, ?_⟩
    intro T2 e2 k43 ek U43 e4
    have n43x : U43.1 = 652 := al_n e2 e4 n42x (by decide)
    have a43x : alL U43 10 608 [65, 67, 68, 69, 70, 71, 72, 74, 75, 77, 78] = S9 := (al_st e2 e4).trans a42x
    have g43x : k43 = hcl (hup (hcl (hup (hclr h 608) 608 0 1) 609 623) 608 23 (-1)) 623 652 := hcl_s g42x ek n42x (by decide) (by decide)
    clear e4 e2 ek g42x a42x n42x
    clear T2 U42 k42
    refine ⟨by rw [n43x]; rfl, by rw [n43x, e9]; decide, ?_⟩
    intro T2 e2 k44 ek U44 e4
    have n44x : U44.1 = 653 := al_n e2 e4 n43x (by decide)
    have a44x : alL U44 10 608 [67, 68, 69, 70, 71, 72, 74, 75, 77, 78] = S9 := (al_st e2 e4).trans a43x
    have g44x : k44 = hcl (hup (hcl (hup (hclr h 608) 608 0 1) 609 623) 608 23 (-1)) 623 653 := hcl_s g43x ek n43x (by decide) (by decide)
    clear e4 e2 ek g43x a43x n43x
    clear T2 U43 k43
    refine ⟨by rw [n44x]; rfl, by rw [n44x, e9]; decide, ?_⟩
    intro T2 e2 k45 ek U45 e4
    have n45x : U45.1 = 654 := al_n e2 e4 n44x (by decide)
    have a45x : alL U45 10 608 [68, 69, 70, 71, 72, 74, 75, 77, 78] = S9 := (al_st e2 e4).trans a44x
    have g45x : k45 = hcl (hup (hcl (hup (hclr h 608) 608 0 1) 609 623) 608 23 (-1)) 623 654 := hcl_s g44x ek n44x (by decide) (by decide)
    clear e4 e2 ek g44x a44x n44x
    clear T2 U44 k44
    refine ⟨by rw [n45x]; rfl, by rw [n45x, e9]; decide, ?_⟩
    intro T2 e2 k46 ek U46 e4
    have n46x : U46.1 = 655 := al_n e2 e4 n45x (by decide)
    have a46x : alL U46 10 608 [69, 70, 71, 72, 74, 75, 77, 78] = S9 := (al_st e2 e4).trans a45x
    have g46x : k46 = hcl (hup (hcl (hup (hclr h 608) 608 0 1) 609 623) 608 23 (-1)) 623 655 := hcl_s g45x ek n45x (by decide) (by decide)
    clear e4 e2 ek g45x a45x n45x
    clear T2 U45 k45
    refine ⟨by rw [n46x]; rfl, by rw [n46x, e9]; decide, ?_⟩
    intro T2 e2 k47 ek U47 e4
    have n47x : U47.1 = 656 := al_n e2 e4 n46x (by decide)
    have a47x : alL U47 10 608 [70, 71, 72, 74, 75, 77, 78] = S9 := (al_st e2 e4).trans a46x
    have g47x : k47 = hcl (hup (hcl (hup (hclr h 608) 608 0 1) 609 623) 608 23 (-1)) 623 656 := hcl_s g46x ek n46x (by decide) (by decide)
    clear e4 e2 ek g46x a46x n46x
    clear T2 U46 k46
    refine ⟨by rw [n47x]; rfl, by rw [n47x, e9]; decide, ?_⟩
    intro T2 e2 k48 ek U48 e4
    have n48x : U48.1 = 657 := al_n e2 e4 n47x (by decide)
    have a48x : alL U48 10 608 [71, 72, 74, 75, 77, 78] = S9 := (al_st e2 e4).trans a47x
    have g48x : k48 = hcl (hup (hcl (hup (hclr h 608) 608 0 1) 609 623) 608 23 (-1)) 623 657 := hcl_s g47x ek n47x (by decide) (by decide)
    clear e4 e2 ek g47x a47x n47x
    clear T2 U47 k47
    refine ⟨by rw [n48x]; rfl, by rw [n48x, e9]; decide, ?_⟩
    intro T2 e2 k49 ek U49 e4
    have n49x : U49.1 = 658 := al_n e2 e4 n48x (by decide)
    have a49x : alL U49 10 608 [72, 74, 75, 77, 78] = S9 := (al_st e2 e4).trans a48x
    have g49x : k49 = hcl (hup (hcl (hup (hclr h 608) 608 0 1) 609 623) 608 23 (-1)) 623 658 := hcl_s g48x ek n48x (by decide) (by decide)
    clear e4 e2 ek g48x a48x n48x
    clear T2 U48 k48
    refine ⟨by rw [n49x]; rfl, by rw [n49x, e9]; decide, ?_⟩
    intro T2 e2 k50 ek U50 e4
    have n50x : U50.1 = 659 := al_n e2 e4 n49x (by decide)
    have a50x : alL U50 10 608 [74, 75, 77, 78] = S9 := (al_st e2 e4).trans a49x
    have g50x : k50 = hcl (hup (hcl (hup (hclr h 608) 608 0 1) 609 623) 608 23 (-1)) 623 659 := hcl_s g49x ek n49x (by decide) (by decide)
    clear e4 e2 ek g49x a49x n49x
    clear T2 U49 k49
    refine ⟨by rw [n50x]; rfl, by rw [n50x, e9]; decide, ?_⟩
    intro T2 e2 k51 ek U51 e4
    have n51x : U51.1 = 660 := al_n e2 e4 n50x (by decide)
    have a51x : alL U51 10 608 [75, 77, 78] = S9 := (al_st e2 e4).trans a50x
    have g51x : k51 = hcl (hup (hcl (hup (hclr h 608) 608 0 1) 609 623) 608 23 (-1)) 623 660 := hcl_s g50x ek n50x (by decide) (by decide)
    clear e4 e2 ek g50x a50x n50x
    clear T2 U50 k50
    refine ⟨by rw [n51x]; rfl, by rw [n51x, e9]; decide, ?_⟩
    intro T2 e2 k52 ek U52 e4
    have n52x : U52.1 = 661 := al_n e2 e4 n51x (by decide)
    have a52x : alL U52 10 608 [77, 78] = S9 := (al_st e2 e4).trans a51x
    have g52x : k52 = hcl (hup (hcl (hup (hclr h 608) 608 0 1) 609 623) 608 23 (-1)) 623 661 := hcl_s g51x ek n51x (by decide) (by decide)
    clear e4 e2 ek g51x a51x n51x
    clear T2 U51 k51
    refine ⟨by rw [n52x]; rfl, by rw [n52x, e9]; decide, ?_⟩
    intro T2 e2 k53 ek U53 e4
    have n53x : U53.1 = 662 := al_n e2 e4 n52x (by decide)
    have a53x : alL U53 10 608 [78] = S9 := (al_st e2 e4).trans a52x
    have g53x : k53 = hcl (hup (hcl (hup (hclr h 608) 608 0 1) 609 623) 608 23 (-1)) 623 662 := hcl_s g52x ek n52x (by decide) (by decide)
    clear e4 e2 ek g52x a52x n52x
    clear T2 U52 k52
    refine ⟨by rw [n53x]; rfl, by rw [n53x, e9]; decide, ?_⟩
    intro T2 e2 k54 ek U54 e4
    have n54x : U54.1 = 663 := al_n e2 e4 n53x (by decide)
    have a54x : alL U54 10 608 [] = S9 := (al_st e2 e4).trans a53x
    have g54x : k54 = hcl (hup (hcl (hup (hclr h 608) 608 0 1) 609 623) 608 23 (-1)) 623 663 := hcl_s g53x ek n53x (by decide) (by decide)
    clear e4 e2 ek g53x a53x n53x
    clear T2 U53 k53
    refine ⟨a54x, ?_⟩
    have e : k54 = pth h 608 663 := by
      rw [g54x]
      funext a j
      unfold pth
      by_cases c : 608 ≤ a ∧ a < 663
      · rw [if_pos c]
        by_cases c2 : a = 608
        · subst c2
          by_cases j0 : j = 0
          · subst j0; simp [hcl, hup, iniV]
          · by_cases j23 : j = 23
            · subst j23; simp [hcl, hup, iniV]
            · simp [hcl, hup, hclr, iniV, j0, j23]
        · rw [ini0 (by omega) (by omega) (by omega) (by omega) (by omega) c2]
          unfold hcl
          by_cases c3 : 623 ≤ a ∧ a < 663
          · rw [if_pos c3]
          · rw [if_neg c3, hup_ne c2]
            show (if 609 ≤ a ∧ a < 623 then 0 else _) = 0
            rw [if_pos (by omega)]
      · rw [if_neg c]
        unfold hcl
        rw [if_neg (by omega), hup_ne (by omega)]
        show (if 609 ≤ a ∧ a < 623 then 0 else _) = _
        rw [if_neg (by omega), hup_ne (by omega), hclr_ne (by omega)]
    rw [e]
    exact q
end
