/-! MORE CONSTRUCTORS -/
theorem sh_p {p k : Int} (h0 : 0 ≤ p) (h1 : p < 40) (k0 : 0 ≤ k) (k1 : k < 14) : SH (35 + 14 * p + k) = shP.getD k.toNat (99, 0) := by
  unfold SH
  rw [if_neg (by omega), if_pos (by omega), show (35 + 14 * p + k - 35) % 14 = k by omega]
theorem sh_pk {p k a : Int} {v : Nat × Int} (h0 : 0 ≤ p) (h1 : p < 40) (k0 : 0 ≤ k) (k1 : k < 14) (e : a = 35 + 14 * p + k) (hv : shP.getD k.toNat (99, 0) = v) : SH a = v := by
  rw [e, sh_p h0 h1 k0 k1, hv]
theorem ini_p {p a j : Int} (h0 : 0 ≤ p) (h1 : p < 40) (a0 : 35 + 14 * p ≤ a) (a1 : a < 35 + 14 * p + 14) : iniV a j = 0 := ini0 (by omega) (by omega) (by omega) (by omega) (by omega) (by omega)
section
variable {g : Gl} {d : Nat} {h : Hp}
theorem k_Pattern {S : Sx} {b p : Int} {Q : Hp → Prop} (h0 : 0 ≤ p) (h1 : p < 40) (hb : b = 35 + 14 * p) (hS : S.1 = b + 1) (q : Q (pth h b (b + 14))) : Good g (d + 2) i6_init [LR 6 b] S (hclr h b) (pt S b (b + 14)) (retV Q) := by
  obtain ⟨s1, s2⟩ := S
  have hS : s1 = b + 1 := hS
  subst hS
  have sb : SH b = (6, 0) := sh_pk (k := 0) h0 h1 (by decide) (by decide) (by omega) rfl
  have s1 : SH (b + 1) = (5, 0) := sh_pk (k := 1) h0 h1 (by decide) (by decide) (by omega) rfl
  have s11 : SH (b + 11) = (20, 24) := sh_pk (k := 11) h0 h1 (by decide) (by decide) (by omega) rfl
  have s12 : SH (b + 12) = (0, 0) := sh_pk (k := 12) h0 h1 (by decide) (by decide) (by omega) rfl
  have s13 : SH (b + 13) = (20, 300) := sh_pk (k := 13) h0 h1 (by decide) (by decide) (by omega) rfl
  have na : NA (b + 1) 24 := ⟨by rw [s1], sh_pk (k := 2) h0 h1 (by decide) (by decide) (by omega) rfl, sh_pk (k := 3) h0 h1 (by decide) (by decide) (by omega) rfl, sh_pk (k := 4) h0 h1 (by decide) (by decide) (by omega) rfl, sh_pk (k := 5) h0 h1 (by decide) (by decide) (by omega) rfl, sh_pk (k := 6) h0 h1 (by decide) (by decide) (by omega) rfl, sh_pk (k := 7) h0 h1 (by decide) (by decide) (by omega) rfl, sh_pk (k := 8) h0 h1 (by decide) (by decide) (by omega) rfl, sh_pk (k := 9) h0 h1 (by decide) (by decide) (by omega) rfl, sh_pk (k := 10) h0 h1 (by decide) (by decide) (by omega) rfl⟩
  refine Good.conv (S' := (b + 14, sup (pt (b + 13, sclr (sup (sclr (sup (pt (b + 2, sclr s2 (b + 1)) (b + 1) (b + 11)).2 6 b 0 (b + 1)) (b + 11)) 6 b 1 (b + 11)) (b + 12)) (b + 12) (b + 14)).2 6 b 2 (b + 12))) ?_ (g6_init (by show b + 1 ≤ b + 14; omega) (v6_init (by omega) ?_))
  · refine ⟨rfl, by show b + 14 ≤ 663; omega, fun a a0 a1 ht k hk hkd => ?_, fun _ i i0 i1 => ?_⟩
    · have a1 : a < b + 14 := a1
      have harr : ∀ c : Int, b + 2 ≤ c → c < b + 14 → c ≠ b + 12 → ¬ (SH c).1 < 20 := fun c c1 c2 c3 => by
        by_cases e : c < b + 11
        · exact (na.t (b := c) (by omega) (by omega)).2
        · rcases (show c = b + 11 ∨ c = b + 13 by omega) with rfl | rfl
          · rw [s11]; decide
          · rw [s13]; decide
      by_cases e0 : a < b
      · rw [pt_out (by omega)]
        show sup _ 6 b 2 _ _ a _ = _
        rw [sup_ne (by omega), pt_out (by omega)]
        show sclr (sup (sclr (sup _ 6 b 0 _) _) 6 b 1 _) _ _ a _ = _
        rw [sclr_ne (by omega), sup_ne (by omega), sclr_ne (by omega), sup_ne (by omega), pt_out (by omega)]
        show sclr s2 _ _ a _ = s2 _ a _
        rw [sclr_ne (by omega)]
      rw [pt_in (by omega) a1]
      show sup _ 6 b 2 _ _ a _ = _
      by_cases e1 : a = b
      · subst e1
        rw [sb] at hk hkd ⊢
        have hk : k < 8 := hk
        by_cases k2 : k = 2
        · subst k2
          show sup _ 6 a 2 _ 6 a 2 = _
          rw [sup_at]
          rfl
        rw [sup_nj (by omega), pt_out (by omega)]
        show sclr (sup (sclr (sup _ 6 a 0 _) _) 6 a 1 _) _ _ a _ = _
        rw [sclr_ne (by omega)]
        by_cases k1 : k = 1
        · subst k1
          show sup _ 6 a 1 _ 6 a 1 = _
          rw [sup_at]
          rfl
        rw [sup_nj (by omega), sclr_ne (by omega)]
        by_cases k0 : k = 0
        · subst k0
          show sup _ 6 a 0 _ 6 a 0 = _
          rw [sup_at]
          rfl
        rcases (show k = 3 ∨ k = 4 ∨ k = 5 ∨ k = 6 ∨ k = 7 by omega) with rfl | rfl | rfl | rfl | rfl <;> exact absurd hkd (by decide)
      rw [sup_ne e1]
      by_cases e12 : a = b + 12
      · rw [pt_in (by omega) (by omega)]
      by_cases e2 : a = b + 1
      · rw [pt_out (by omega)]
        show sclr (sup (sclr (sup _ 6 b 0 _) _) 6 b 1 _) _ _ a _ = _
        rw [sclr_ne (by omega), sup_ne (by omega), sclr_ne (by omega), sup_ne (by omega), pt_in (by omega) (by omega)]
      exact absurd ht (harr a (by omega) a1 e12)
    · rw [pt_out (by omega)]
      show sup (pt (b + 13, sclr (sup (sclr (sup (pt (b + 2, sclr s2 (b + 1)) (b + 1) (b + 11)).2 6 b 0 (b + 1)) (b + 11)) 6 b 1 (b + 11)) (b + 12)) (b + 12) (b + 14)).2 6 b 2 (b + 12) 24 34 i = s2 24 34 i
      rw [sup_ne (by omega), pt_out (by omega)]
      show sclr (sup (sclr (sup (pt (b + 2, sclr s2 (b + 1)) (b + 1) (b + 11)).2 6 b 0 (b + 1)) (b + 11)) 6 b 1 (b + 11)) (b + 12) 24 34 i = s2 24 34 i
      rw [sclr_ne (by omega), sup_ne (by omega), sclr_ne (by omega), sup_ne (by omega), pt_out (by omega)]
      show sclr s2 (b + 1) 24 34 i = s2 24 34 i
      rw [sclr_ne (by omega)]
  · refine ⟨by rw [s1], by show b + 1 + 1 ≤ b + 14; omega, ?_⟩
    intro T1 e1 h2 e2
    refine ⟨by show b + 1 ≠ 0; omega, pt (b + 2, sclr s2 (b + 1)) (b + 1) (b + 11), ?_, by show b + 11 ≤ b + 14; omega, ?_⟩
    · rw [e1]; show b + 1 + 1 ≤ b + 11; omega
    have e1 : T1 = (b + 2, sclr s2 (b + 1)) := by rw [e1]; show (b + 1 + 1, _) = _; rw [show b + 1 + 1 = b + 2 by omega]
    rw [e1, e2]
    refine k_Nodes (n := b + 1) (by omega) (by omega) (by show b + 2 = b + 1 + 1; omega) na (by decide) (fun a j a0 a1 => ini_p h0 h1 (by omega) (by omega)) ?_ |> (fun z => by rw [show b + 1 + 10 = b + 11 by omega] at z; exact z)
    intro T6 e6
    rw [show b + 1 + 10 = b + 11 by omega]
    subst e6
    refine ⟨s11, by show b + 11 + 1 ≤ b + 14; omega, ?_⟩
    intro T7 e7 h8 e8 T9 e9
    subst e7
    have e9 : T9 = (b + 12, sup (sclr (sup (pt (b + 2, sclr s2 (b + 1)) (b + 1) (b + 11)).2 6 b 0 (b + 1)) (b + 11)) 6 b 1 (b + 11)) := by rw [e9]; show (b + 11 + 1, _) = _; rw [show b + 11 + 1 = b + 12 by omega]; rfl
    rw [e9]
    refine ⟨by show (SH (b + 12)).1 = 0; rw [s12], by show b + 12 + 1 ≤ b + 14; omega, ?_⟩
    intro T10 e10 h11 e11
    have e10 : T10 = (b + 13, sclr (sup (sclr (sup (pt (b + 2, sclr s2 (b + 1)) (b + 1) (b + 11)).2 6 b 0 (b + 1)) (b + 11)) 6 b 1 (b + 11)) (b + 12)) := by rw [e10]; show (b + 12 + 1, _) = _; rw [show b + 12 + 1 = b + 13 by omega]
    rw [e10]
    refine ⟨by show b + 12 ≠ 0; omega, pt (b + 13, sclr (sup (sclr (sup (pt (b + 2, sclr s2 (b + 1)) (b + 1) (b + 11)).2 6 b 0 (b + 1)) (b + 11)) 6 b 1 (b + 11)) (b + 12)) (b + 12) (b + 14), by show b + 13 ≤ b + 14; omega, by show b + 14 ≤ b + 14; omega, ?_⟩
    rw [e11]
    refine k_Answer (w := b + 12) (by omega) (by omega) (by show b + 13 = b + 12 + 1; omega) (by rw [s12]) (by rw [show b + 12 + 1 = b + 13 by omega]; exact s13) (fun a j a0 a1 => ini_p h0 h1 (by omega) (by omega)) ?_ |> (fun z => by rw [show b + 12 + 2 = b + 14 by omega] at z; exact z)
    intro T15 e15
    refine ⟨e15, ?_⟩
    rw [e8]
    have eh : pth (hclr (pth (hclr h b) (b + 1) (b + 11)) (b + 11)) (b + 12) (b + 12 + 2) = pth h b (b + 14) := by
      funext a j
      unfold pth hclr
      by_cases c1 : b + 12 ≤ a ∧ a < b + 12 + 2
      · rw [if_pos c1, if_pos (by omega)]
      rw [if_neg c1]
      by_cases c2 : a = b + 11
      · rw [if_pos c2, if_pos (by omega), ini_p h0 h1 (by omega) (by omega)]
      rw [if_neg c2]
      show (if b + 1 ≤ a ∧ a < b + 11 then iniV a j else if a = b then 0 else h a j) = _
      by_cases c3 : b + 1 ≤ a ∧ a < b + 11
      · rw [if_pos c3, if_pos (by omega)]
      rw [if_neg c3]
      by_cases c4 : a = b
      · rw [if_pos c4, if_pos (by omega), ini_p h0 h1 (by omega) (by omega)]
      rw [if_neg c4, if_neg (by omega)]
    show Q (pth (hclr (pth (hclr h b) (b + 1) (b + 11)) (b + 11)) (b + 12) (b + 12 + 2))
    rw [eh]
    exact q
end
