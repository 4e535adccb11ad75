/-! THE CONSTRUCTORS, in one form: the heap as it is made, the final references as they are in the end -/
/-- what the cells hold when all is made -/
def iniV (a j : Int) : Int := if a = 5 ∧ j = 4 then 1 else if a = 6 ∧ j = 0 then -1 else if a = 597 ∧ j = 8 then -1 else if a = 598 ∧ j = 7 then 14 else if a = 598 ∧ j = 8 then 595 else if a = 605 ∧ j = 4 then -1 else if a = 608 ∧ j = 0 then 1 else if a = 608 ∧ j = 23 then -1 else 0
def pth (h : Hp) (lo hi : Int) : Hp := fun a j => if lo ≤ a ∧ a < hi then iniV a j else h a j
theorem pth_pth {h : Hp} {lo mid hi : Int} (h1 : lo ≤ mid) (h2 : mid ≤ hi) : pth (pth h lo mid) mid hi = pth h lo hi := by
  funext a j
  unfold pth
  by_cases e : mid ≤ a ∧ a < hi
  · rw [if_pos e, if_pos (by omega)]
  · rw [if_neg e]
    by_cases e2 : lo ≤ a ∧ a < mid
    · rw [if_pos e2, if_pos (by omega)]
    · rw [if_neg e2, if_neg (by omega)]
theorem ini0 {a j : Int} (h1 : a ≠ 5) (h2 : a ≠ 6) (h3 : a ≠ 597) (h4 : a ≠ 598) (h5 : a ≠ 605) (h6 : a ≠ 608) : iniV a j = 0 := by
  unfold iniV
  rw [if_neg (fun z => h1 z.1), if_neg (fun z => h2 z.1), if_neg (fun z => h3 z.1), if_neg (fun z => h4 z.1), if_neg (fun z => h4 z.1), if_neg (fun z => h5 z.1), if_neg (fun z => h6 z.1), if_neg (fun z => h6 z.1)]
theorem hcl_pth {h : Hp} {b hi : Int} (hz : ∀ a j : Int, b ≤ a → a < hi → iniV a j = 0) (h1 : b + 1 ≤ hi) : hcl (hclr h b) (b + 1) hi = pth h b hi := by
  funext a j
  unfold hcl pth hclr
  by_cases e : b + 1 ≤ a ∧ a < hi
  · rw [if_pos e, if_pos (by omega), hz a j (by omega) (by omega)]
  · rw [if_neg e]
    by_cases e2 : a = b
    · rw [if_pos e2, if_pos (by omega), hz a j (by omega) (by omega)]
    · rw [if_neg e2, if_neg (by omega)]
section
variable {g : Gl} {d : Nat} {h : Hp}
theorem k_Answer {S : Sx} {w : Int} {Q : Hp → Prop} (hw : 4 ≤ w) (hw2 : w + 2 ≤ 663) (hS : S.1 = w + 1) (t0 : (SH w).1 = 0) (t1 : SH (w + 1) = (20, 300)) (hz : ∀ a j : Int, w ≤ a → a < w + 2 → iniV a j = 0) (q : Q (pth h w (w + 2))) : Good g (d + 1) i0_init [LR 0 w] S (hclr h w) (pt S w (w + 2)) (retV Q) := by
  refine c_Answer hw hw2 hS t0 t1 ?_
  have e : hclr (hclr h w) (w + 1) = pth h w (w + 2) := by
    rw [← hcl_pth hz (by omega), ← show w + 1 + 1 = w + 2 by omega, ← hcl_1 _ _ _ (by omega), hcl_0]
  rw [e]
  exact q
theorem k_Text {S : Sx} {t c : Int} {Q : Hp → Prop} (hw : 4 ≤ t) (hw2 : t + 2 ≤ 663) (hS : S.1 = t + 1) (t0 : (SH t).1 = 8) (t1 : SH (t + 1) = (20, c)) (hc : 0 ≤ c) (hz : ∀ a j : Int, t ≤ a → a < t + 2 → iniV a j = 0) (q : Q (pth h t (t + 2))) : Good g (d + 1) i8_init [LR 8 t, LI c] S (hclr h t) (pt S t (t + 2)) (retV Q) := by
  refine c_Text hw hw2 hS t0 t1 hc ?_
  have e : hclr (hclr h t) (t + 1) = pth h t (t + 2) := by
    rw [← hcl_pth hz (by omega), ← show t + 1 + 1 = t + 2 by omega, ← hcl_1 _ _ _ (by omega), hcl_0]
  rw [e]
  exact q
theorem k_Nodes {S : Sx} {n c : Int} {Q : Hp → Prop} (hn : 4 ≤ n) (hn2 : n + 10 ≤ 663) (hS : S.1 = n + 1) (t : NA n c) (hc : 0 ≤ c) (hz : ∀ a j : Int, n ≤ a → a < n + 10 → iniV a j = 0) (q : Q (pth h n (n + 10))) : Good g (d + 1) i5_init [LR 5 n, LI c] S (hclr h n) (pt S n (n + 10)) (retV Q) := by
  refine c_Nodes hn hn2 hS t hc ?_
  rw [hcl_pth hz (by omega)]
  exact q
theorem al_i {S : Sx} {t : Nat} {a : Int} (ks : List Int) (i : Nat) (j v : Int) (h1 : a < S.1) (hn : ks.Nodup) (h : ks[i]? = some j) (e : S.1 + i = v) : (alL S t a ks).2 t a j = v := (alL_at t a ks S i j h1 hn h).trans e
set_option maxRecDepth 20000 in
theorem k_Heads {S : Sx} {Q : Hp → Prop} (hS : S.1 = 6) (q : Q (pth h 5 10)) : Good g (d + 1) i2_init [LR 2 5] S (hclr h 5) (pt S 5 10) (retV Q) := by
  obtain ⟨s1, s2⟩ := S
  have hS : s1 = 6 := hS
  subst hS
  refine Good.conv (S' := alL (6, s2) 2 5 [0, 1, 2, 3]) ?_ (g2_init (show (6 : Int) ≤ 10 by decide) (v2_init ?_))
  · refine Seq.obj rfl (by decide) (by decide) (fun b h1 h2 => ?_) (fun u b j hb => alL_old 2 5 _ _ u b j (by show b < 6; omega) (by omega)) (fun ht k hk hkd => ?_) (fun _ _ => trivial) (fun z => by omega)
    · rcases (show b = 6 ∨ b = 7 ∨ b = 8 ∨ b = 9 by omega) with rfl | rfl | rfl | rfl <;> exact ⟨by decide, by decide⟩
    · have hk : k < 6 := hk
      rcases (show k = 0 ∨ k = 1 ∨ k = 2 ∨ k = 3 ∨ k = 4 ∨ k = 5 by omega) with rfl | rfl | rfl | rfl | rfl | rfl
      · exact al_i _ 0 0 6 (show (5 : Int) < 6 by decide) (by decide) rfl (show (6 : Int) + 0 = 6 by decide)
      · exact al_i _ 1 1 7 (show (5 : Int) < 6 by decide) (by decide) rfl (show (6 : Int) + 1 = 7 by decide)
      · exact al_i _ 2 2 8 (show (5 : Int) < 6 by decide) (by decide) rfl (show (6 : Int) + 2 = 8 by decide)
      · exact al_i _ 3 3 9 (show (5 : Int) < 6 by decide) (by decide) rfl (show (6 : Int) + 3 = 9 by decide)
      · exact absurd hkd (by decide)
      · exact absurd hkd (by decide)
  · refine ⟨rfl, show (6 : Int) + 1 ≤ 10 by decide, ?_⟩
    intro T1 e1 h2 e2 T3 e3
    subst e1 e3
    refine ⟨rfl, show (7 : Int) + 1 ≤ 10 by decide, ?_⟩
    intro T1 e1 h5 e5 T6 e6
    subst e1 e6
    refine ⟨rfl, show (8 : Int) + 1 ≤ 10 by decide, ?_⟩
    intro T1 e1 h8 e8 T6 e6
    subst e1 e6
    refine ⟨rfl, show (9 : Int) + 1 ≤ 10 by decide, ?_⟩
    intro T1 e1 h11 e11 T6 e6
    subst e1 e6
    have e6 : ((9 + 1, sup (sclr (alL (6, s2) 2 5 [0, 1, 2]).2 9) 2 5 3 9) : Sx).2 2 5 0 = 6 := al_i (S := (6, s2)) [0, 1, 2, 3] 0 0 6 (show (5 : Int) < 6 by decide) (by decide) rfl (show (6 : Int) + 0 = 6 by decide)
    refine ⟨by show 4 ≤ ((9 + 1, sup (sclr (alL (6, s2) 2 5 [0, 1, 2]).2 9) 2 5 3 9) : Sx).2 2 5 0; rw [e6]; decide, ?_, ?_⟩
    · show 0 < lnn g (((9 + 1, sup (sclr (alL (6, s2) 2 5 [0, 1, 2]).2 9) 2 5 3 9) : Sx).2 2 5 0)
      rw [e6]
      show (0 : Int) < 12
      decide
    intro h13 e13 h14 e14
    refine ⟨rfl, ?_⟩
    have e13' : h13 = hup h11 6 0 (-1) := by
      rw [e13]
      show hup h11 (((9 + 1, sup (sclr (alL (6, s2) 2 5 [0, 1, 2]).2 9) 2 5 3 9) : Sx).2 2 5 0) 0 (-1) = _
      rw [e6]
    have hh : h14 = pth h 5 10 := by
      rw [e14, e13', e11, e8, e5, e2]
      funext a j
      show hup (hup (hclr (hclr (hclr (hclr (hclr h 5) 6) 7) 8) 9) 6 0 (-1)) 5 4 1 a j = _
      unfold pth
      by_cases c1 : 5 ≤ a ∧ a < 10
      · rw [if_pos c1]
        rcases (show a = 5 ∨ a = 6 ∨ a = 7 ∨ a = 8 ∨ a = 9 by omega) with rfl | rfl | rfl | rfl | rfl <;> simp [hup, hclr, iniV]
      · rw [if_neg c1, hup_ne (by omega), hup_ne (by omega), hclr_ne (by omega), hclr_ne (by omega), hclr_ne (by omega), hclr_ne (by omega), hclr_ne (by omega)]
    rw [hh]
    exact q
end
