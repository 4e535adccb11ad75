/-! WHAT IS MADE: two S that say the same of what is there; the constructors -/
def Seq (S S' : Sx) : Prop := S.1 = S'.1 ∧ S.1 ≤ 663 ∧ (∀ a : Int, 0 < a → a < S.1 → (SH a).1 < 20 → ∀ k : Nat, k < nf (SH a).1 → (fkt (SH a).1 k).1 = 3 → S.2 (SH a).1 a k = S'.2 (SH a).1 a k) ∧ (34 < S.1 → ∀ i : Int, 0 ≤ i → i < 40 → S.2 24 34 i = S'.2 24 34 i)
theorem sval_s {g : Gl} {S S' : Sx} {h : Hp} {t kd : Nat} {a i : Int} (h2 : kd = 3 → S.2 t a i = S'.2 t a i) : sval g S' h t kd a i = sval g S h t kd a i := by
  unfold sval
  split <;> first | rfl | (rw [h2 rfl])
theorem sok_s {S S' : Sx} {h : Hp} {t : Nat} {kt : Nat × Nat} {a i : Int} (e : S.1 = S'.1) (h2 : kt.1 = 3 → S.2 t a i = S'.2 t a i) (hk : sok S h t kt a i) : sok S' h t kt a i := by
  unfold sok at hk ⊢
  split at hk <;> first | exact hk | (rename_i z; rw [← h2 z]; exact okr_up (Int.le_of_eq e) hk) | exact okr_up (Int.le_of_eq e) hk
theorem sh24 : ∀ a : Int, (SH a).1 = 24 → a = 34 := by
  intro a h
  have key : ∀ (l : List (Nat × Int)) (i : Nat), (∀ q ∈ l, q.1 ≠ 24) → (l.getD i (99, 0)).1 ≠ 24 := fun l i hl => by
    rw [List.getD_eq_getElem?_getD]
    cases hi : l[i]? with
    | none => decide
    | some q => exact hl q (List.mem_of_getElem? hi)
  unfold SH at h
  split at h
  · rename_i h35
    by_cases ha : a < 34
    · have e : shA.getD a.toNat (99, 0) = (shA.take 34).getD a.toNat (99, 0) := by
        rw [List.getD_eq_getElem?_getD, List.getD_eq_getElem?_getD, List.getElem?_take_of_lt (by omega)]
      rw [e] at h
      exact absurd h (key _ _ (by decide))
    · omega
  · split at h
    · exact absurd h (key _ _ (by decide))
    · exact absurd h (key _ _ (by decide))
theorem sh_ok {a : Int} (h0 : 0 < a) (h1 : a < 663) : (SH a).1 < 25 := by
  have key : ∀ (l : List (Nat × Int)) (i : Nat), (∀ q ∈ l, q.1 < 25) → i < l.length → (l.getD i (99, 0)).1 < 25 := fun l i hl hi => by
    rw [List.getD_eq_getElem?_getD, List.getElem?_eq_getElem hi]
    exact hl _ (List.getElem_mem hi)
  unfold SH
  split
  · have e : shA.getD a.toNat (99, 0) = (shA.drop 1).getD (a.toNat - 1) (99, 0) := by
      rw [List.getD_eq_getElem?_getD, List.getD_eq_getElem?_getD, List.getElem?_drop, show 1 + (a.toNat - 1) = a.toNat by omega]
    rw [e]
    exact key _ _ (by decide) (by show a.toNat - 1 < 34; omega)
  · split
    · exact key _ _ (by decide) (by show ((a - 35) % 14).toNat < 14; omega)
    · exact key _ _ (by decide) (by show (a - 595).toNat < 68; omega)
theorem HR.conv {g : Gl} {S S' : Sx} {h : Hp} {H : Heap} (hq : Seq S S') (hH : HR g S h H) : HR g S' h H := by
  obtain ⟨e, eN, q1, q2⟩ := hq
  refine ⟨by rw [← e]; exact hH.1, by rw [← e]; exact hH.2.1, fun a a0 a1 => ?_⟩
  have hc := hH.2.2 a a0 (by omega)
  have q1 := q1 a a0 (by omega)
  unfold CR at hc ⊢
  split at hc
  · rename_i ht
    rw [if_pos ht]
    exact ⟨hc.1.to (fun k hk => (sval_s (fun z => q1 ht k hk z)).symm), fun k hk => sok_s e (fun z => q1 ht k hk z) (hc.2 k hk)⟩
  · rename_i ht
    rw [if_neg ht]
    obtain ⟨⟨cell, c1, c2, c3, c4, c5⟩, c6⟩ := hc
    have hl : ∀ i : Nat, i < (lnn g a).toNat → (akd (SH a).1).1 = 3 → S.2 (SH a).1 a i = S'.2 (SH a).1 a i := by
      intro i hi z
      have h25 := sh_ok a0 (by omega)
      have z4 : (SH a).1 = 24 := by
        generalize (SH a).1 = t at z ht h25
        have : t = 20 ∨ t = 21 ∨ t = 22 ∨ t = 23 ∨ t = 24 := by omega
        rcases this with rfl | rfl | rfl | rfl | rfl
        · exact absurd z (by decide)
        · exact absurd z (by decide)
        · exact absurd z (by decide)
        · exact absurd z (by decide)
        · rfl
      have ea := sh24 a z4
      subst ea
      have : lnn g 34 = 40 := rfl
      rw [this] at hi
      exact q2 (by omega) i (by omega) (by omega)
    exact ⟨⟨cell, c1, c2, c3, c4, fun i hi => by rw [c5 i hi, sval_s (hl i hi)]⟩, fun i hi => sok_s e (hl i hi) (c6 i hi)⟩
theorem okv_s {S S' : Sx} (e : S.1 = S'.1) {v : LV} (h : okv S v) : okv S' v := okv_up (Int.le_of_eq e) h
theorem LW.conv {g : Gl} {d : Nat} {M : ME} {S S' : Sx} {Q : LV → Hp → Prop} {pc : Nat} {ls : Lc} {st : List LV} {S1 S2 : Sx} {h : Hp} (hq : Seq S1 S2) (X : LW g d M S S' Q pc ls st S2 h) : LW g d M S S' Q pc ls st S1 h :=
  fun p e s m args below meth c s₁ B hml hG hKN hSS H locs lr hH hZ hl hL hs hk hn => by
    have K := X p e s m args below meth c s₁ B hml hG hKN hSS H locs lr (hH.conv hq) hZ hl hL (fun v hv => okv_s hq.1 (hs v hv)) (fun i v hv => okv_s hq.1 (hk i v hv)) (by rw [← hq.1]; exact hn)
    rw [← hq.1] at K
    exact K
theorem Good.conv {g : Gl} {d : Nat} {mi : MI} {as : List LV} {S S' S'' : Sx} {h : Hp} {Q : LV → Hp → Prop} (hq : Seq S' S'') (X : Good g d mi as S h S' Q) : Good g d mi as S h S'' Q := by
  intro hG hok
  have Y := X hG hok
  unfold rmO at Y ⊢
  rw [hq.1] at Y
  intro p e h1 h2 h3 s m args below h4 h5 h6 h7
  obtain ⟨n, o, a1, a2, a3, ⟨r, h', b1, b2, b3, b4⟩, a5⟩ := Y p e h1 h2 h3 s m args below h4 h5 h6 h7
  exact ⟨n, o, a1, a2, a3, ⟨r, h', b1, okv_s hq.1 b2, ⟨b3.1.conv hq, b3.2⟩, b4⟩, a5⟩
/-- a stretch of addresses as it is in the end -/
def pt (S : Sx) (lo hi : Int) : Sx := (hi, fun t a k => if lo ≤ a ∧ a < hi then RC t a k else S.2 t a k)
