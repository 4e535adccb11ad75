/-! THE RULENET ITSELF: its final references come one by one -/
def cn (s2 : Nat → Int → Int → Int) (n : Int) (F : List Int) (y : Int) : Sx := (n, fun t a k => if t = 9 then (if k ∈ F then RC 9 4 k else 0) else if t = 24 then (if k < y then 35 + 14 * k else 0) else if 4 ≤ a then RC t a k else s2 t a k)
theorem Seq.trans {S S' S'' : Sx} (h1 : Seq S S') (h2 : Seq S' S'') : Seq S S'' := by
  obtain ⟨a1, a2, a3, a4⟩ := h1
  obtain ⟨b1, b2, b3, b4⟩ := h2
  exact ⟨a1.trans b1, a2, fun a a0 a1' ht k hk hkd => (a3 a a0 a1' ht k hk hkd).trans (b3 a a0 (by omega) ht k hk hkd), fun z i i0 i1 => (a4 z i i0 i1).trans (b4 (by omega) i i0 i1)⟩
def nw (S : Sx) (n n' k : Int) : Sx := (n', sup (pt (n + 1, sclr S.2 n) n n').2 9 4 k n)
theorem Seq.nw {S : Sx} {s2 : Nat → Int → Int → Int} {n n' k y : Int} {F : List Int} (hs : Seq S (cn s2 n F y)) (h4 : 4 < n) (hn : n < n') (hn' : n' ≤ 663) (h34 : ¬ (n ≤ 34 ∧ 34 < n')) (h9 : ∀ a : Int, n ≤ a → a < n' → (SH a).1 ≠ 9) (hk : RC 9 4 k = n) : Seq (nw S n n' k) (cn s2 n' (k :: F) y) := by
  obtain ⟨a1, a2, a3, a4⟩ := hs
  have a1 : S.1 = n := a1
  refine ⟨rfl, hn', fun a a0 a1' ht j hj hjd => ?_, fun z i i0 i1 => ?_⟩
  · have a1' : a < n' := a1'
    show sup (pt (n + 1, sclr S.2 n) n n').2 9 4 k n _ a j = _
    by_cases e4 : a = 4
    · subst e4
      have t9 : (SH 4).1 = 9 := rfl
      rw [t9]
      show _ = (if (j : Int) ∈ k :: F then RC 9 4 j else 0)
      by_cases ej : (j : Int) = k
      · rw [ej, sup_at, if_pos List.mem_cons_self, hk]
      · rw [sup_nj ej, pt_out (by omega)]
        show sclr S.2 n 9 4 j = _
        rw [sclr_ne (by omega)]
        have := a3 4 a0 (by omega) ht j hj hjd
        rw [t9] at this
        rw [this]
        show (if (j : Int) ∈ F then RC 9 4 j else 0) = _
        have : ((j : Int) ∈ F) ↔ ((j : Int) ∈ k :: F) := by rw [List.mem_cons]; exact ⟨Or.inr, fun z => z.resolve_left ej⟩
        by_cases c : (j : Int) ∈ F
        · rw [if_pos c, if_pos (this.mp c)]
        · rw [if_neg c, if_neg (fun z => c (this.mpr z))]
    · rw [sup_ne e4]
      by_cases e : n ≤ a
      · rw [pt_in e a1']
        show _ = (if (SH a).1 = 9 then _ else if (SH a).1 = 24 then _ else if 4 ≤ a then RC (SH a).1 a j else _)
        rw [if_neg (h9 a e a1'), if_neg (by omega), if_pos (by omega)]
      · rw [pt_out (by omega)]
        show sclr S.2 n _ a j = _
        rw [sclr_ne (by omega), a3 a a0 (by omega) ht j hj hjd]
        show (if (SH a).1 = 9 then (if (j : Int) ∈ F then RC 9 4 j else 0) else _) = (if (SH a).1 = 9 then (if (j : Int) ∈ k :: F then RC 9 4 j else 0) else _)
        have n9 : (SH a).1 ≠ 9 := fun z => by
          have q : ∀ a : Int, (SH a).1 = 9 → a = 4 := by
            intro a h
            have key : ∀ (l : List (Nat × Int)) (i : Nat), (∀ q ∈ l, q.1 ≠ 9) → (l.getD i (99, 0)).1 ≠ 9 := fun l i hl => by
              rw [List.getD_eq_getElem?_getD]
              cases hi : l[i]? with
              | none => decide
              | some q => exact hl q (List.mem_of_getElem? hi)
            unfold SH at h
            split at h
            · rename_i h35
              by_cases ha : a ≤ 4
              · by_cases hb : a < 4
                · have e : shA.getD a.toNat (99, 0) = (shA.take 4).getD a.toNat (99, 0) := by
                    rw [List.getD_eq_getElem?_getD, List.getD_eq_getElem?_getD, List.getElem?_take_of_lt (by omega)]
                  rw [e] at h
                  exact absurd h (key _ _ (by decide))
                · omega
              · have e : shA.getD a.toNat (99, 0) = (shA.drop 5).getD (a.toNat - 5) (99, 0) := by
                  rw [List.getD_eq_getElem?_getD, List.getD_eq_getElem?_getD, List.getElem?_drop, show 5 + (a.toNat - 5) = a.toNat by omega]
                rw [e] at h
                exact absurd h (key _ _ (by decide))
            · split at h
              · exact absurd h (key _ _ (by decide))
              · exact absurd h (key _ _ (by decide))
          exact e4 (q a z)
        rw [if_neg n9, if_neg n9]
  · have z : 34 < n' := z
    show sup (pt (n + 1, sclr S.2 n) n n').2 9 4 k n 24 34 i = _
    rw [sup_ne (by omega), pt_out (by omega)]
    show sclr S.2 n 24 34 i = _
    rw [sclr_ne (by omega), a4 (by omega) i i0 i1]
    rfl
/-- the array of PATTERNS comes -/
theorem Seq.ar {S : Sx} {s2 : Nat → Int → Int → Int} {F : List Int} (hs : Seq S (cn s2 34 F 0)) : Seq (35, sup (sclr S.2 34) 9 4 5 34) (cn s2 35 (5 :: F) 0) := by
  obtain ⟨a1, a2, a3, a4⟩ := hs
  have a1 : S.1 = 34 := a1
  refine ⟨rfl, show (35 : Int) ≤ 663 by decide, fun a a0 a1' ht j hj hjd => ?_, fun z i i0 i1 => ?_⟩
  · have a1' : a < 35 := a1'
    show sup (sclr S.2 34) 9 4 5 34 _ a j = _
    have n34 : a ≠ 34 := fun z => by rw [z] at ht; exact absurd ht (by decide)
    by_cases e4 : a = 4
    · subst e4
      show sup (sclr S.2 34) 9 4 5 34 9 4 j = (if (j : Int) ∈ 5 :: F then RC 9 4 j else 0)
      by_cases ej : (j : Int) = 5
      · rw [ej, sup_at, if_pos List.mem_cons_self]; rfl
      · rw [sup_nj ej, sclr_ne (by omega)]
        have := a3 4 a0 (by omega) ht j hj hjd
        have : S.2 9 4 j = _ := this
        rw [this]
        show (if (j : Int) ∈ F then RC 9 4 j else 0) = _
        have : ((j : Int) ∈ F) ↔ ((j : Int) ∈ 5 :: F) := by rw [List.mem_cons]; exact ⟨Or.inr, fun z => z.resolve_left ej⟩
        by_cases c : (j : Int) ∈ F
        · rw [if_pos c, if_pos (this.mp c)]
        · rw [if_neg c, if_neg (fun z => c (this.mpr z))]
    · rw [sup_ne e4, sclr_ne n34, a3 a a0 (by omega) ht j hj hjd]
      show (if (SH a).1 = 9 then (if (j : Int) ∈ F then RC 9 4 j else 0) else _) = (if (SH a).1 = 9 then (if (j : Int) ∈ 5 :: F then RC 9 4 j else 0) else _)
      have n9 : (SH a).1 ≠ 9 := by
        have : ∀ k : Nat, k < 35 → k ≠ 4 → (SH (k : Int)).1 ≠ 9 := by decide
        have := this a.toNat (by omega) (by omega)
        rwa [show ((a.toNat : Nat) : Int) = a by omega] at this
      rw [if_neg n9, if_neg n9]
  · show sup (sclr S.2 34) 9 4 5 34 24 34 i = (if i < 0 then 35 + 14 * i else 0)
    rw [sup_ne (by decide), sclr_at, if_neg (by omega)]
/-- one more PATTERN -/
theorem Seq.pat {s2 : Nat → Int → Int → Int} {F : List Int} {y : Int} (y0 : 0 ≤ y) (y1 : y < 40) : Seq (35 + 14 * y + 14, sup (pt (35 + 14 * y + 1, sclr (cn s2 (35 + 14 * y) F y).2 (35 + 14 * y)) (35 + 14 * y) (35 + 14 * y + 14)).2 24 34 y (35 + 14 * y)) (cn s2 (35 + 14 * (y + 1)) F (y + 1)) := by
  refine ⟨by show 35 + 14 * y + 14 = 35 + 14 * (y + 1); omega, by show 35 + 14 * y + 14 ≤ 663; omega, fun a a0 a1' ht j hj hjd => ?_, fun z i i0 i1 => ?_⟩
  · have a1' : a < 35 + 14 * y + 14 := a1'
    have n34 : a ≠ 34 := fun z => by rw [z] at ht; exact absurd ht (by decide)
    show sup (pt (35 + 14 * y + 1, sclr (cn s2 (35 + 14 * y) F y).2 (35 + 14 * y)) (35 + 14 * y) (35 + 14 * y + 14)).2 24 34 y (35 + 14 * y) _ a j = (if (SH a).1 = 9 then (if (j : Int) ∈ F then RC 9 4 j else 0) else if (SH a).1 = 24 then (if (j : Int) < y + 1 then 35 + 14 * (j : Int) else 0) else if 4 ≤ a then RC (SH a).1 a j else s2 (SH a).1 a j)
    rw [sup_ne n34]
    by_cases e : 35 + 14 * y ≤ a
    · rw [pt_in e a1', if_neg, if_neg (by omega), if_pos (by omega)]
      intro z
      have hs : SH a = shP.getD ((a - 35) % 14).toNat (99, 0) := by
        unfold SH
        rw [if_neg (by omega), if_pos (by omega)]
      rw [hs] at z
      have key : ∀ (l : List (Nat × Int)) (i : Nat), (∀ q ∈ l, q.1 ≠ 9) → (l.getD i (99, 0)).1 ≠ 9 := fun l i hl => by
        rw [List.getD_eq_getElem?_getD]
        cases hi : l[i]? with
        | none => decide
        | some q => exact hl q (List.mem_of_getElem? hi)
      exact key _ _ (by decide) z
    · rw [pt_out (by omega)]
      show sclr (cn s2 (35 + 14 * y) F y).2 (35 + 14 * y) _ a j = _
      rw [sclr_ne (by omega)]
      show (if (SH a).1 = 9 then (if (j : Int) ∈ F then RC 9 4 j else 0) else if (SH a).1 = 24 then _ else if 4 ≤ a then RC (SH a).1 a j else s2 (SH a).1 a j) = _
      have n24 : ¬ (SH a).1 = 24 := by omega
      simp only [if_neg n24]
  · show sup (pt (35 + 14 * y + 1, sclr (cn s2 (35 + 14 * y) F y).2 (35 + 14 * y)) (35 + 14 * y) (35 + 14 * y + 14)).2 24 34 y (35 + 14 * y) 24 34 i = (if i < y + 1 then 35 + 14 * i else 0)
    by_cases e : i = y
    · subst e
      rw [sup_at, if_pos (by omega)]
    · rw [sup_nj e, pt_out (by omega)]
      show sclr (cn s2 (35 + 14 * y) F y).2 (35 + 14 * y) 24 34 i = _
      rw [sclr_ne (by omega)]
      show (if i < y then 35 + 14 * i else 0) = _
      by_cases c : i < y
      · rw [if_pos c, if_pos (by omega)]
      · rw [if_neg c, if_neg (by omega)]
