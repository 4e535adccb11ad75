/-! THE CONSTRUCTORS' CONTRACTS -/
theorem pt_in {S : Sx} {lo hi a k : Int} {t : Nat} (h1 : lo ≤ a) (h2 : a < hi) : (pt S lo hi).2 t a k = RC t a k := by
  show (if lo ≤ a ∧ a < hi then RC t a k else S.2 t a k) = _
  rw [if_pos ⟨h1, h2⟩]
theorem pt_out {S : Sx} {lo hi a k : Int} {t : Nat} (h : ¬ (lo ≤ a ∧ a < hi)) : (pt S lo hi).2 t a k = S.2 t a k := by
  show (if lo ≤ a ∧ a < hi then RC t a k else S.2 t a k) = _
  rw [if_neg h]
section
variable {g : Gl} {d : Nat} {h : Hp}
theorem c_Answer {S : Sx} {w : Int} {Q : Hp → Prop} (hw : 4 ≤ w) (hw2 : w + 2 ≤ 663) (hS : S.1 = w + 1) (t0 : (SH w).1 = 0) (t1 : SH (w + 1) = (20, 300)) (q : Q (hclr h (w + 1))) : Good g (d + 1) i0_init [LR 0 w] S h (pt S w (w + 2)) (retV Q) := by
  refine Good.conv (S' := (S.1 + 1, sup (sclr S.2 S.1) 0 w 0 S.1)) ?_ (g0_init (by show S.1 ≤ S.1 + 1; omega) (v0_init hw ⟨by rw [hS]; exact t1, Int.le_refl _, ?_⟩))
  · refine ⟨by show S.1 + 1 = w + 2; omega, by show S.1 + 1 ≤ 663; omega, fun a a0 a1 ht k hk hkd => ?_, fun _ i i0 i1 => ?_⟩
    · have a1 : a < S.1 + 1 := a1
      by_cases e : a = w
      · subst e
        rw [pt_in (by omega) (by omega)]
        rw [t0] at hk hkd ⊢
        have hk : k < 5 := hk
        rcases (show k = 0 ∨ k = 1 ∨ k = 2 ∨ k = 3 ∨ k = 4 by omega) with rfl | rfl | rfl | rfl | rfl
        · show sup _ 0 a 0 S.1 0 a ((0 : Nat) : Int) = _
          rw [show ((0 : Nat) : Int) = 0 from rfl, sup_at, hS]
          rfl
        · exact absurd hkd (by decide)
        · exact absurd hkd (by decide)
        · exact absurd hkd (by decide)
        · exact absurd hkd (by decide)
      · by_cases e2 : a = w + 1
        · subst e2
          rw [t1] at ht
          exact absurd ht (by decide)
        · rw [pt_out (by omega)]
          show sup _ 0 w 0 S.1 _ a _ = _
          rw [sup_ne e, sclr_ne (by omega)]
    · have n1 : w ≠ 34 := fun z => by rw [z] at t0; exact absurd t0 (by decide)
      have n2 : w + 1 ≠ 34 := fun z => by rw [z] at t1; exact absurd t1 (by decide)
      rw [pt_out (by omega)]
      show sup (sclr S.2 S.1) 0 w 0 S.1 24 34 i = S.2 24 34 i
      rw [sup_ne (by omega), sclr_ne (by omega)]
  · intro T1 e1 h2 e2 T3 e3
    subst e1 e2 e3
    exact ⟨rfl, by rw [hS]; exact q⟩
theorem c_Text {S : Sx} {t c : Int} {Q : Hp → Prop} (hw : 4 ≤ t) (hw2 : t + 2 ≤ 663) (hS : S.1 = t + 1) (t0 : (SH t).1 = 8) (t1 : SH (t + 1) = (20, c)) (hc : 0 ≤ c) (q : Q (hclr h (t + 1))) : Good g (d + 1) i8_init [LR 8 t, LI c] S h (pt S t (t + 2)) (retV Q) := by
  refine Good.conv (S' := (S.1 + 1, sup (sclr S.2 S.1) 8 t 0 S.1)) ?_ (g8_init (by show S.1 ≤ S.1 + 1; omega) (v8_init hw ⟨by show S.1 ≤ S.1 + 1; omega, by rw [hS, t1]; congr 1; omega, by omega, Int.le_refl _, ?_⟩))
  · refine ⟨by show S.1 + 1 = t + 2; omega, by show S.1 + 1 ≤ 663; omega, fun a a0 a1 ht k hk hkd => ?_, fun _ i i0 i1 => ?_⟩
    · have a1 : a < S.1 + 1 := a1
      by_cases e : a = t
      · subst e
        rw [pt_in (by omega) (by omega)]
        rw [t0] at hk hkd ⊢
        have hk : k < 2 := hk
        rcases (show k = 0 ∨ k = 1 by omega) with rfl | rfl
        · show sup _ 8 a 0 S.1 8 a ((0 : Nat) : Int) = _
          rw [show ((0 : Nat) : Int) = 0 from rfl, sup_at, hS]
          rfl
        · exact absurd hkd (by decide)
      · by_cases e2 : a = t + 1
        · subst e2
          rw [t1] at ht
          exact absurd ht (by show ¬ (20 : Nat) < 20; decide)
        · rw [pt_out (by omega)]
          show sup _ 8 t 0 S.1 _ a _ = _
          rw [sup_ne e, sclr_ne (by omega)]
    · have n1 : t ≠ 34 := fun z => by rw [z] at t0; exact absurd t0 (by decide)
      have n2 : t + 1 ≠ 34 := fun z => by
        rw [z] at t1
        exact absurd (show (SH 34).1 = 20 from congrArg Prod.fst t1) (by decide)
      rw [pt_out (by omega)]
      show sup (sclr S.2 S.1) 8 t 0 S.1 24 34 i = S.2 24 34 i
      rw [sup_ne (by omega), sclr_ne (by omega)]
  · intro T1 e1 h2 e2 T3 e3
    subst e1 e2 e3
    exact ⟨rfl, by rw [hS]; exact q⟩
/-- nodes lie there -/
def NA (n c : Int) : Prop := (SH n).1 = 5 ∧ SH (n + 1) = (20, c) ∧ SH (n + 2) = (20, c) ∧ SH (n + 3) = (20, c) ∧ SH (n + 4) = (20, c) ∧ SH (n + 5) = (22, c) ∧ SH (n + 6) = (21, c) ∧ SH (n + 7) = (21, c) ∧ SH (n + 8) = (20, c) ∧ SH (n + 9) = (20, c)
/-- ten cells are cleared -/
def hcl (h : Hp) (lo hi : Int) : Hp := fun b j => if lo ≤ b ∧ b < hi then 0 else h b j
theorem hcl_1 (h : Hp) (lo hi : Int) (hl : lo ≤ hi) : hclr (hcl h lo hi) hi = hcl h lo (hi + 1) := by
  funext b j
  unfold hclr hcl
  by_cases e : b = hi
  · rw [if_pos e, if_pos (by omega)]
  · rw [if_neg e]
    by_cases e2 : lo ≤ b ∧ b < hi
    · rw [if_pos e2, if_pos (by omega)]
    · rw [if_neg e2, if_neg (by omega)]
theorem hcl_0 (h : Hp) (lo : Int) : hcl h lo lo = h := by
  funext b j
  unfold hcl
  rw [if_neg (by omega)]
/-- an array is made and put into a final field -/
def al (S : Sx) (t : Nat) (a k : Int) : Sx := (S.1 + 1, sup (sclr S.2 S.1) t a k S.1)
def alL (S : Sx) (t : Nat) (a : Int) : List Int → Sx
  | [] => S
  | k :: ks => alL (al S t a k) t a ks
theorem alL_1 (t : Nat) (a : Int) : ∀ (ks : List Int) (S : Sx), (alL S t a ks).1 = S.1 + ks.length
  | [], S => by simp [alL]
  | k :: ks, S => by
    rw [alL, alL_1 t a ks, List.length_cons]
    show S.1 + 1 + _ = _
    omega
theorem alL_old (t : Nat) (a : Int) : ∀ (ks : List Int) (S : Sx) (u : Nat) (b j : Int), b < S.1 → b ≠ a → (alL S t a ks).2 u b j = S.2 u b j
  | [], S, u, b, j, _, _ => rfl
  | k :: ks, S, u, b, j, h1, h2 => by
    rw [alL, alL_old t a ks _ u b j (by show b < S.1 + 1; omega) h2]
    show sup (sclr S.2 S.1) t a k S.1 u b j = _
    rw [sup_ne h2, sclr_ne (by omega)]
theorem alL_no (t : Nat) (a : Int) : ∀ (ks : List Int) (S : Sx) (j : Int), a < S.1 → j ∉ ks → (alL S t a ks).2 t a j = S.2 t a j
  | [], S, j, _, _ => rfl
  | k :: ks, S, j, h1, h2 => by
    rw [alL, alL_no t a ks _ j (by show a < S.1 + 1; omega) (fun z => h2 (List.mem_cons_of_mem _ z))]
    show sup (sclr S.2 S.1) t a k S.1 t a j = _
    rw [sup_nj (fun z => h2 (by rw [z]; exact List.mem_cons_self)), sclr_ne (by omega)]
theorem alL_at (t : Nat) (a : Int) : ∀ (ks : List Int) (S : Sx) (i : Nat) (j : Int), a < S.1 → ks.Nodup → ks[i]? = some j → (alL S t a ks).2 t a j = S.1 + i
  | [], S, i, j, _, _, h => by simp at h
  | k :: ks, S, 0, j, h1, hn, h => by
    have e : k = j := by simpa using h
    subst e
    have hn := List.nodup_cons.mp hn
    rw [alL, alL_no t a ks _ k (by show a < S.1 + 1; omega) hn.1]
    show sup (sclr S.2 S.1) t a k S.1 t a k = _
    rw [sup_at]
    simp
  | k :: ks, S, i + 1, j, h1, hn, h => by
    have hn := List.nodup_cons.mp hn
    rw [alL, alL_at t a ks _ i j (by show a < S.1 + 1; omega) hn.2 (by simpa using h)]
    show S.1 + 1 + (i : Int) = S.1 + ((i + 1 : Nat) : Int)
    omega
/-- the same of what is there, where one object with its arrays is new -/
theorem Seq.obj {S S9 : Sx} {a hi : Int} (e1 : S9.1 = hi) (e2 : hi ≤ 663) (ha : a ≠ 34) (harr : ∀ b : Int, a < b → b < hi → b ≠ 34 ∧ ¬ (SH b).1 < 20) (hold : ∀ (u : Nat) (b j : Int), b < a → S9.2 u b j = S.2 u b j) (hnew : (SH a).1 < 20 → ∀ k : Nat, k < nf (SH a).1 → (fkt (SH a).1 k).1 = 3 → S9.2 (SH a).1 a k = RC (SH a).1 a k) (hk34 : ∀ j : Int, hi ≤ 34 → True) (h34 : 34 < hi → ¬ (a ≤ 34 ∧ 34 < hi) ) : Seq S9 (pt S a hi) := by
  refine ⟨e1, by rw [e1]; exact e2, fun b b0 b1 ht k hk hkd => ?_, fun z i i0 i1 => ?_⟩
  · rw [e1] at b1
    by_cases q : b = a
    · subst q
      rw [pt_in (Int.le_refl _) b1]
      exact hnew ht k hk hkd
    · by_cases q2 : a < b
      · exact absurd ht (harr b q2 b1).2
      · rw [pt_out (by omega)]
        exact hold _ _ _ (by omega)
  · rw [e1] at z
    have := h34 z
    rw [pt_out this]
    exact hold _ _ _ (by omega)
theorem NA.t {n c : Int} (t : NA n c) {b : Int} (h1 : n < b) (h2 : b < n + 10) : b ≠ 34 ∧ ¬ (SH b).1 < 20 := by
  obtain ⟨t0, t1, t2, t3, t4, t5, t6, t7, t8, t9⟩ := t
  have key : ∀ (q : Nat), (q = 20 ∨ q = 21 ∨ q = 22) → SH b = (q, c) → b ≠ 34 ∧ ¬ (SH b).1 < 20 := fun q hq hb => by
    refine ⟨fun z => ?_, fun z => ?_⟩
    · rw [z] at hb
      have h3 : (SH 34).1 = q := congrArg Prod.fst hb
      have h4 : (SH 34).1 = 24 := by decide
      omega
    · rw [hb] at z
      have z : q < 20 := z
      omega
  have : b = n + 1 ∨ b = n + 2 ∨ b = n + 3 ∨ b = n + 4 ∨ b = n + 5 ∨ b = n + 6 ∨ b = n + 7 ∨ b = n + 8 ∨ b = n + 9 := by omega
  rcases this with rfl | rfl | rfl | rfl | rfl | rfl | rfl | rfl | rfl
  · exact key 20 (by decide) t1
  · exact key 20 (by decide) t2
  · exact key 20 (by decide) t3
  · exact key 20 (by decide) t4
  · exact key 22 (by decide) t5
  · exact key 21 (by decide) t6
  · exact key 21 (by decide) t7
  · exact key 20 (by decide) t8
  · exact key 20 (by decide) t9
theorem NA.n34 {n c : Int} (t : NA n c) : n ≠ 34 := fun z => by
  have h3 : (SH n).1 = 5 := t.1
  rw [z] at h3
  exact absurd h3 (by decide)
set_option maxRecDepth 20000 in
theorem c_Nodes {S : Sx} {n c : Int} {Q : Hp → Prop} (hn : 4 ≤ n) (hn2 : n + 10 ≤ 663) (hS : S.1 = n + 1) (t : NA n c) (hc : 0 ≤ c) (q : Q (hcl h (n + 1) (n + 10))) : Good g (d + 1) i5_init [LR 5 n, LI c] S h (pt S n (n + 10)) (retV Q) := by
  have tt := t
  obtain ⟨t0, t1, t2, t3, t4, t5, t6, t7, t8, t9⟩ := t
  have hm : max c 0 = c := by omega
  refine Good.conv (S' := alL S 5 n [0, 1, 2, 3, 4, 5, 6, 7, 8]) ?_ (g5_init (by rw [alL_1]; show S.1 ≤ S.1 + 9; omega) (v5_init hn ?_))
  · have m34 : ¬ (n ≤ 34 ∧ 34 < n + 10) := fun z => by
      by_cases e : n = 34
      · exact tt.n34 e
      · exact (tt.t (b := 34) (by omega) z.2).1 rfl
    refine Seq.obj (by rw [alL_1, hS]; show n + 1 + 9 = n + 10; omega) hn2 tt.n34 (fun b h1 h2 => tt.t h1 h2) (fun u b j hb => alL_old 5 n _ S u b j (by omega) (by omega)) (fun ht k hk hkd => ?_) (fun _ _ => trivial) (fun _ => m34)
    rw [t0] at hk hkd ⊢
    have hk : k < 10 := hk
    have hlt : n < S.1 := by omega
    rcases (show k = 0 ∨ k = 1 ∨ k = 2 ∨ k = 3 ∨ k = 4 ∨ k = 5 ∨ k = 6 ∨ k = 7 ∨ k = 8 ∨ k = 9 by omega) with rfl | rfl | rfl | rfl | rfl | rfl | rfl | rfl | rfl | rfl
    · exact (alL_at 5 n _ S 0 0 hlt (by decide) rfl).trans (by rw [hS]; show n + 1 + 0 = n + 1; omega)
    · exact (alL_at 5 n _ S 1 1 hlt (by decide) rfl).trans (by rw [hS]; show n + 1 + 1 = n + 2; omega)
    · exact (alL_at 5 n _ S 2 2 hlt (by decide) rfl).trans (by rw [hS]; show n + 1 + 2 = n + 3; omega)
    · exact (alL_at 5 n _ S 3 3 hlt (by decide) rfl).trans (by rw [hS]; show n + 1 + 3 = n + 4; omega)
    · exact (alL_at 5 n _ S 4 4 hlt (by decide) rfl).trans (by rw [hS]; show n + 1 + 4 = n + 5; omega)
    · exact (alL_at 5 n _ S 5 5 hlt (by decide) rfl).trans (by rw [hS]; show n + 1 + 5 = n + 6; omega)
    · exact (alL_at 5 n _ S 6 6 hlt (by decide) rfl).trans (by rw [hS]; show n + 1 + 6 = n + 7; omega)
    · exact (alL_at 5 n _ S 7 7 hlt (by decide) rfl).trans (by rw [hS]; show n + 1 + 7 = n + 8; omega)
    · exact (alL_at 5 n _ S 8 8 hlt (by decide) rfl).trans (by rw [hS]; show n + 1 + 8 = n + 9; omega)
    · exact absurd hkd (by decide)
  · obtain ⟨s1, s2⟩ := S
    have hS : s1 = n + 1 := hS
    subst hS
    have e10 : (alL (n + 1, s2) 5 n [0, 1, 2, 3, 4, 5, 6, 7, 8]).1 = n + 10 := by rw [alL_1]; show n + 1 + 9 = n + 10; omega
    rw [hm, e10]
    refine ⟨by show n + 1 ≤ n + 10; omega, t1, hc, by show n + 1 + 1 ≤ n + 10; omega, ?_⟩
    intro T1 e1 h2 e2 T3 e3
    subst e1 e3
    refine ⟨by show SH (n + 1 + 1) = _; rw [show n + 1 + 1 = n + 2 by omega]; exact t2, by show n + 1 + 1 + 1 ≤ n + 10; omega, ?_⟩
    intro T1 e1 h5 e5 T6 e6
    subst e1 e6
    refine ⟨by show SH (n + 1 + 1 + 1) = _; rw [show n + 1 + 1 + 1 = n + 3 by omega]; exact t3, by show n + 1 + 1 + 1 + 1 ≤ n + 10; omega, ?_⟩
    intro T1 e1 h8 e8 T6 e6
    subst e1 e6
    refine ⟨by show SH (n + 1 + 1 + 1 + 1) = _; rw [show n + 1 + 1 + 1 + 1 = n + 4 by omega]; exact t4, by show n + 1 + 1 + 1 + 1 + 1 ≤ n + 10; omega, ?_⟩
    intro T1 e1 h11 e11 T6 e6
    subst e1 e6
    refine ⟨by show SH (n + 1 + 1 + 1 + 1 + 1) = _; rw [show n + 1 + 1 + 1 + 1 + 1 = n + 5 by omega]; exact t5, by show n + 1 + 1 + 1 + 1 + 1 + 1 ≤ n + 10; omega, ?_⟩
    intro T1 e1 h14 e14 T6 e6
    subst e1 e6
    refine ⟨by show SH (n + 1 + 1 + 1 + 1 + 1 + 1) = _; rw [show n + 1 + 1 + 1 + 1 + 1 + 1 = n + 6 by omega]; exact t6, by show n + 1 + 1 + 1 + 1 + 1 + 1 + 1 ≤ n + 10; omega, ?_⟩
    intro T1 e1 h17 e17 T6 e6
    subst e1 e6
    refine ⟨by show SH (n + 1 + 1 + 1 + 1 + 1 + 1 + 1) = _; rw [show n + 1 + 1 + 1 + 1 + 1 + 1 + 1 = n + 7 by omega]; exact t7, by show n + 1 + 1 + 1 + 1 + 1 + 1 + 1 + 1 ≤ n + 10; omega, ?_⟩
    intro T1 e1 h20 e20 T6 e6
    subst e1 e6
    refine ⟨by show SH (n + 1 + 1 + 1 + 1 + 1 + 1 + 1 + 1) = _; rw [show n + 1 + 1 + 1 + 1 + 1 + 1 + 1 + 1 = n + 8 by omega]; exact t8, by show n + 1 + 1 + 1 + 1 + 1 + 1 + 1 + 1 + 1 ≤ n + 10; omega, ?_⟩
    intro T1 e1 h23 e23 T6 e6
    subst e1 e6
    refine ⟨by show SH (n + 1 + 1 + 1 + 1 + 1 + 1 + 1 + 1 + 1) = _; rw [show n + 1 + 1 + 1 + 1 + 1 + 1 + 1 + 1 + 1 = n + 9 by omega]; exact t9, by show n + 1 + 1 + 1 + 1 + 1 + 1 + 1 + 1 + 1 + 1 ≤ n + 10; omega, ?_⟩
    intro T1 e1 h26 e26 T6 e6
    subst e1 e6
    refine ⟨rfl, ?_⟩
    have hh : h26 = hcl h (n + 1) (n + 10) := by
      subst e26 e23 e20 e17 e14 e11 e8 e5 e2
      have st : ∀ k : Int, 0 ≤ k → hclr (hcl h (n + 1) (n + 1 + k)) (n + 1 + k) = hcl h (n + 1) (n + 1 + k + 1) := fun k hk => hcl_1 _ _ _ (by omega)
      have s0 : hclr h (n + 1) = hcl h (n + 1) (n + 1 + 1) := by
        have := st 0 (by omega)
        rw [show n + 1 + 0 = n + 1 by omega, hcl_0] at this
        exact this
      show hclr (hclr (hclr (hclr (hclr (hclr (hclr (hclr (hclr h (n + 1)) (n + 1 + 1)) (n + 1 + 1 + 1)) (n + 1 + 1 + 1 + 1)) (n + 1 + 1 + 1 + 1 + 1)) (n + 1 + 1 + 1 + 1 + 1 + 1)) (n + 1 + 1 + 1 + 1 + 1 + 1 + 1)) (n + 1 + 1 + 1 + 1 + 1 + 1 + 1 + 1)) (n + 1 + 1 + 1 + 1 + 1 + 1 + 1 + 1 + 1) = _
      rw [s0]
      iterate 8 rw [hcl_1 _ _ _ (by omega)]
      congr 1
    rw [hh]
    exact q
end
