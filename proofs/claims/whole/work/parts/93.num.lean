/-! PRINTING: texts, numbers -/
abbrev Tx : Type := List Int
def tx (W : Tx) : Int → Int := fun i => W.getD i.toNat 0
def cT (W : Tx) (h : Hp) : Prop := cX 12 3000 (tx W) (W.length : Nat) h
def mTx (W : Tx) (h : Hp) : Prop := mO (tx W) (W.length : Nat) h
theorem tx_push {W : Tx} {v i : Int} (i0 : 0 ≤ i) (i1 : i ≤ (W.length : Nat)) : push (tx W) (W.length : Nat) v i = tx (W ++ [v]) i := by
  unfold push tx
  split
  · rename_i c
    rw [List.getD_eq_getElem?_getD, List.getElem?_append_right (by omega), show i.toNat - W.length = 0 by omega]
    rfl
  · rename_i c
    rw [List.getD_eq_getElem?_getD, List.getD_eq_getElem?_getD, List.getElem?_append_left (by omega)]
theorem len1 (W : Tx) (v : Int) : ((W ++ [v]).length : Nat) = W.length + 1 := by rw [List.length_append]; rfl
section
variable {g : Gl} {d : Nat} {h : Hp} {W : Tx} {Q : Hp → Prop}
theorem c_put {v : Int} (H : cT W h) (l : W.length < 3000) (v0 : 0 ≤ v) (v1 : v < 128) (q : ∀ h' : Hp, cT (W ++ [v]) h' → (∀ a : Int, a ≠ 12 → a ≠ 13 → h' a = h a) → Q h') : Good g (d + 1) i8_add [LR 8 12, LI v] S0 h S0 (retV Q) := by
  refine f_add (c := 3000) (by decide) rfl (by decide) H (by omega) v0 (by omega) (fun h' X F => q h' ?_ F)
  obtain ⟨x1, x2, x3, x4⟩ := X
  unfold cT cX
  rw [len1]
  refine ⟨by rw [x1]; omega, by omega, by omega, fun i i0 i1 => ?_⟩
  have := x4 i i0 (by omega)
  rw [tx_push i0 (by omega)] at this
  exact this
theorem m_put {v : Int} (H : mTx W h) (l : W.length < 3000) (v0 : 0 ≤ v) (v1 : v < 128) (q : ∀ h' : Hp, mTx (W ++ [v]) h' → (∀ a : Int, a ≠ 608 → a ≠ 660 → h' a = h a) → (∀ j : Int, j ≠ 76 → h' 608 j = h 608 j) → Q h') : Good g (d + 1) i10_put [LR 10 608, LI v] S0 h S0 (retV Q) := by
  obtain ⟨m1, m2, m3, m4⟩ := H
  refine g10_put (fun _ => v10_put ?_)
  rw [m1]
  refine ⟨m2, by omega, fun h1 k1 h2 k2 => ?_⟩
  have e1 : h1 608 76 = (W.length : Nat) := by rw [k1, hup_r (by decide)]; exact m1
  rw [e1, w32_id (by omega) (by omega)] at k2
  rw [(w8_eq v0 (by omega) v0 v1).mpr rfl] at k1
  refine q h2 ?_ (fun a x1 x2 => by rw [k2, hup_r x1, k1, hup_r x2]) (fun j hj => by rw [k2, hup_nj hj, k1, hup_r (by decide)])
  unfold mTx mO
  rw [len1]
  refine ⟨by rw [k2, hup_at]; omega, by omega, by omega, fun i i0 i1 => ?_⟩
  rw [← tx_push i0 (by omega), k2, hup_r (by decide), k1]
  unfold push
  by_cases c : i = (W.length : Nat)
  · rw [if_pos c, c, hup_at]
    exact ⟨rfl, v0, v1⟩
  · rw [if_neg c, hup_nj c]
    exact m4 i i0 (by omega)
end
/-- powers of ten; the number of digits but one; the digits -/
def p10 : Nat → Int
  | 0 => 1
  | k + 1 => 10 * p10 k
def uK : Nat → Int
  | 0 => 0
  | k + 1 => p10 k
def ndF (v : Int) : Nat → Nat → Nat
  | 0, k => k
  | m + 1, k => if v / p10 k ≤ 9 then k else ndF v m (k + 1)
def dtK (v : Int) : Nat → Tx
  | 0 => []
  | k + 1 => (48 + v / p10 k % 10) :: dtK v k
def nAb (v : Int) : Int := if v < 0 then -v else v
def numT (v : Int) : Tx := (if v < 0 then [45] else []) ++ dtK (nAb v) (ndF (nAb v) 17 0 + 1)
theorem p10_b : ∀ k : Nat, k ≤ 17 → 1 ≤ p10 k ∧ p10 k ≤ 100000000000000000 := by
  have : ∀ k : Fin 18, 1 ≤ p10 k.val ∧ p10 k.val ≤ 100000000000000000 := by decide +kernel
  intro k hk
  exact this ⟨k, by omega⟩
theorem p10_17 : p10 17 = 100000000000000000 := by decide +kernel
theorem uK_d : ∀ k : Nat, uK (k + 1) / 10 = uK k
  | 0 => by decide
  | k + 1 => by
    show (10 * p10 k) / 10 = p10 k
    omega
theorem dtK_l {v : Int} : ∀ k : Nat, (dtK v k).length = k
  | 0 => rfl
  | k + 1 => by
    show (dtK v k).length + 1 = k + 1
    rw [dtK_l k]
theorem ndF_b {v : Int} : ∀ (m k : Nat), k ≤ ndF v m k ∧ ndF v m k ≤ k + m
  | 0, k => ⟨Nat.le_refl _, Nat.le_refl _⟩
  | m + 1, k => by
    have := ndF_b (v := v) m (k + 1)
    unfold ndF
    split <;> omega
theorem numT_l {v : Int} : (numT v).length ≤ 19 := by
  have := ndF_b (v := nAb v) 17 0
  unfold numT
  rw [List.length_append, dtK_l]
  split
  · show 1 + _ ≤ 19; omega
  · show 0 + _ ≤ 19; omega
theorem dv_b {a u : Int} (a0 : 0 ≤ a) (u0 : 1 ≤ u) : 0 ≤ a / u ∧ a / u ≤ a := ⟨Int.ediv_nonneg a0 (by omega), Int.ediv_le_self _ a0⟩
theorem dgt {a u : Int} (a0 : 0 ≤ a) (a1 : a < 1000000000000000000) (u0 : 1 ≤ u) : w64 (Int.tdiv a u) = a / u ∧ w64 (a / u - Int.tdiv (a / u) 10 * 10) = a / u % 10 := by
  have b := dv_b a0 u0
  refine ⟨by rw [Int.tdiv_eq_ediv_of_nonneg a0, w64_id (by omega) (by omega)], ?_⟩
  generalize a / u = X at *
  rw [Int.tdiv_eq_ediv_of_nonneg b.1, w64_id (by omega) (by omega)]
  omega
theorem ud_w {k : Nat} (hk : k ≤ 17) : w64 (Int.tdiv (uK (k + 1)) 10) = uK k := by
  have b : 1 ≤ uK (k + 1) ∧ uK (k + 1) ≤ 100000000000000000 := p10_b k hk
  have e := uK_d k
  rw [Int.tdiv_eq_ediv_of_nonneg (by omega), e, w64_id (by omega) (by omega)]
section
variable {g : Gl} {d : Nat} {Q : Hp → Prop}
theorem c_digits {a : Int} (a0 : 0 ≤ a) (a1 : a < 1000000000000000000) : ∀ (k : Nat) (W : Tx) (h : Hp), k ≤ 18 → cT W h → W.length + k < 3000 → (∀ h' : Hp, cT (W ++ dtK a k) h' → (∀ x : Int, x ≠ 12 → x ≠ 13 → h' x = h x) → Q h') → L0 g (d + 1) m8_addNumber (retV Q) 55 [some (LR 8 12), none, none, some (LL a), none, some (LL (uK k)), none, none] h
  | 0, W, h, hk, H, l, q => by
    refine v8_addNumber_55 ⟨fun _ => q h (by rw [show dtK a 0 = [] from rfl, List.append_nil]; exact H) (fun _ _ _ => rfl), fun z => absurd (by rw [lc_le]; exact Int.le_refl 0) z⟩
  | k + 1, W, h, hk, H, l, q => by
    have b : 1 ≤ uK (k + 1) ∧ uK (k + 1) ≤ 100000000000000000 := p10_b k (by omega)
    have D := dgt a0 a1 b.1
    have dg : 0 ≤ a / uK (k + 1) % 10 ∧ a / uK (k + 1) % 10 < 10 := by
      generalize a / uK (k + 1) = X
      omega
    refine v8_addNumber_55 ?_
    rw [D.1, D.2, ud_w (by omega), w32_id (x := a / uK (k + 1) % 10) (by omega) (by omega), w32_id (x := 48 + a / uK (k + 1) % 10) (by omega) (by omega)]
    simp only [lc_le]
    refine ⟨fun z => absurd z (by omega), fun z => ⟨by omega, c_put H (by omega) (by omega) (by omega) (fun h2 H2 F2 => ?_)⟩⟩
    refine c_digits a0 a1 k _ h2 (by omega) H2 (by rw [len1]; omega) (fun h3 H3 F3 => q h3 ?_ (fun x x1 x2 => by rw [F3 x x1 x2]; exact F2 x x1 x2))
    rw [List.append_assoc] at H3
    exact H3
theorem c_unit {a : Int} (a0 : 0 ≤ a) (a1 : a < 1000000000000000000) {h : Hp} : ∀ (m k : Nat), k + m = 17 → L0 g (d + 1) m8_addNumber (retV Q) 55 [some (LR 8 12), none, none, some (LL a), none, some (LL (uK (ndF a m k + 1))), none, none] h → L0 g (d + 1) m8_addNumber (retV Q) 23 [some (LR 8 12), none, none, some (LL a), none, some (LL (p10 k)), none, some (LI ((k : Int) + 1))] h
  | 0, k, hk, X => v8_addNumber_23 ⟨fun _ => X, fun z => absurd (by omega) z⟩
  | m + 1, k, hk, X => by
    have b := p10_b k (by omega)
    have D := dgt a0 a1 b.1
    refine v8_addNumber_23 ?_
    rw [D.1, w64_id (x := p10 k * 10) (by omega) (by omega), w32_id (x := (k : Int) + 1 + 1) (by omega) (by omega)]
    simp only [lc_lt]
    unfold ndF at X
    refine ⟨fun z => absurd z (by omega), fun _ => ⟨by omega, fun z => ?_, fun z => ?_⟩⟩
    · rw [if_pos (by omega)] at X
      exact X
    · rw [if_neg (by omega)] at X
      have Y := c_unit a0 a1 m (k + 1) (by omega) X
      rw [show p10 (k + 1) = p10 k * 10 from Int.mul_comm _ _] at Y
      exact Y
theorem c_num {v : Int} (v0 : -1000000000000000000 < v) (v1 : v < 1000000000000000000) {W : Tx} {h : Hp} (H : cT W h) (l : W.length + 20 < 3000) (q : ∀ h' : Hp, cT (W ++ numT v) h' → (∀ x : Int, x ≠ 12 → x ≠ 13 → h' x = h x) → Q h') : Good g (d + 2) i8_addNumber [LR 8 12, LL v] S0 h S0 (retV Q) := by
  have nb := ndF_b (v := nAb v) 17 0
  refine g8_addNumber (fun _ => v8_addNumber ?_)
  have e : (if 0 < v then v else w64 (-v)) = nAb v := by
    unfold nAb
    rw [w64_id (by omega) (by omega)]
    split <;> split <;> omega
  have a0 : 0 ≤ nAb v := by unfold nAb; split <;> omega
  have a1 : nAb v < 1000000000000000000 := by unfold nAb; split <;> omega
  rw [e]
  simp only [lc_ge]
  unfold numT at q
  refine ⟨fun z => ?_, fun z => ?_⟩
  · rw [if_neg (by omega), List.nil_append] at q
    exact c_unit a0 a1 17 0 rfl (c_digits a0 a1 _ W h (by omega) H (by omega) q)
  · rw [if_pos (by omega)] at q
    refine c_put H (by omega) (by decide) (by decide) (fun h2 H2 F2 => ?_)
    refine c_unit a0 a1 17 0 rfl (c_digits a0 a1 _ _ h2 (by omega) H2 (by rw [len1]; omega) (fun h3 H3 F3 => q h3 ?_ (fun x x1 x2 => by rw [F3 x x1 x2]; exact F2 x x1 x2)))
    rw [List.append_assoc] at H3
    exact H3
/-! the model's numbers -/
def mFrN (h h' : Hp) : Prop := (∀ a : Int, a ≠ 608 → a ≠ 660 → h' a = h a) ∧ ∀ j : Int, j ≠ 76 → h' 608 j = h 608 j
theorem mFrN.tr {h h2 h3 : Hp} (a : mFrN h h2) (b : mFrN h2 h3) : mFrN h h3 := ⟨fun x x1 x2 => by rw [b.1 x x1 x2]; exact a.1 x x1 x2, fun j hj => by rw [b.2 j hj]; exact a.2 j hj⟩
theorem m_dgts {a : Int} (a0 : 0 ≤ a) (a1 : a < 1000000000000000000) : ∀ (k : Nat) (W : Tx) (h : Hp), k ≤ 18 → mTx W h → W.length + k < 3000 → (∀ h' : Hp, mTx (W ++ dtK a k) h' → mFrN h h' → Q h') → L0 g (d + 1) m10_putNumber (retV Q) 50 [some (LR 10 608), none, none, some (LL a), none, some (LL (uK k)), none] h
  | 0, W, h, hk, H, l, q => by
    refine v10_putNumber_50 ⟨fun _ => q h (by rw [show dtK a 0 = [] from rfl, List.append_nil]; exact H) ⟨fun _ _ _ => rfl, fun _ _ => rfl⟩, fun z => absurd (by rw [lc_le]; exact Int.le_refl 0) z⟩
  | k + 1, W, h, hk, H, l, q => by
    have b : 1 ≤ uK (k + 1) ∧ uK (k + 1) ≤ 100000000000000000 := p10_b k (by omega)
    have D := dgt a0 a1 b.1
    have dg : 0 ≤ a / uK (k + 1) % 10 ∧ a / uK (k + 1) % 10 < 10 := by
      generalize a / uK (k + 1) = X
      omega
    refine v10_putNumber_50 ?_
    rw [D.1, D.2, ud_w (by omega), w64_id (x := 48 + a / uK (k + 1) % 10) (by omega) (by omega), w32_id (x := 48 + a / uK (k + 1) % 10) (by omega) (by omega)]
    simp only [lc_le]
    refine ⟨fun z => absurd z (by omega), fun z => ⟨by omega, m_put H (by omega) (by omega) (by omega) (fun h2 H2 F2 G2 => ?_)⟩⟩
    refine m_dgts a0 a1 k _ h2 (by omega) H2 (by rw [len1]; omega) (fun h3 H3 F3 => q h3 ?_ (mFrN.tr ⟨F2, G2⟩ F3))
    rw [List.append_assoc] at H3
    exact H3
theorem m_unit {a : Int} (a0 : 0 ≤ a) (a1 : a < 1000000000000000000) {h : Hp} : ∀ (m k : Nat), k + m = 17 → L0 g (d + 1) m10_putNumber (retV Q) 50 [some (LR 10 608), none, none, some (LL a), none, some (LL (uK (ndF a m k + 1))), none] h → L0 g (d + 1) m10_putNumber (retV Q) 28 [some (LR 10 608), none, none, some (LL a), none, some (LL (p10 k)), none] h
  | 0, k, hk, X => by
    have ek : k = 17 := by omega
    subst ek
    have D := dgt (u := p10 17) a0 a1 (by rw [p10_17]; decide)
    refine v10_putNumber_28 ⟨by rw [p10_17]; decide, ?_⟩
    rw [D.1]
    simp only [lc_le]
    refine ⟨fun _ => X, fun z => absurd ?_ z⟩
    rw [p10_17]
    omega
  | m + 1, k, hk, X => by
    have b := p10_b k (by omega)
    have D := dgt a0 a1 b.1
    refine v10_putNumber_28 ⟨by omega, ?_⟩
    rw [D.1, w64_id (x := p10 k * 10) (by omega) (by omega)]
    simp only [lc_le]
    unfold ndF at X
    refine ⟨fun z => ?_, fun z => ?_⟩
    · rw [if_pos z] at X
      exact X
    · rw [if_neg z] at X
      have Y := m_unit a0 a1 m (k + 1) (by omega) X
      rw [show p10 (k + 1) = p10 k * 10 from Int.mul_comm _ _] at Y
      exact Y
theorem m_num {v : Int} (v0 : -1000000000000000000 < v) (v1 : v < 1000000000000000000) {W : Tx} {h : Hp} (H : mTx W h) (l : W.length + 20 < 3000) (q : ∀ h' : Hp, mTx (W ++ numT v) h' → mFrN h h' → Q h') : Good g (d + 2) i10_putNumber [LR 10 608, LL v] S0 h S0 (retV Q) := by
  have nb := ndF_b (v := nAb v) 17 0
  refine g10_putNumber (fun _ => v10_putNumber ?_)
  have a0 : 0 ≤ nAb v := by unfold nAb; split <;> omega
  have a1 : nAb v < 1000000000000000000 := by unfold nAb; split <;> omega
  rw [w64_id (x := -v) (by omega) (by omega)]
  simp only [lc_ge]
  unfold numT at q
  refine ⟨fun z => ?_, fun z => ?_⟩
  · rw [if_neg (by omega), List.nil_append] at q
    have e : nAb v = v := by unfold nAb; rw [if_neg (by omega)]
    rw [e] at q nb a0 a1
    exact m_unit a0 a1 17 0 rfl (m_dgts a0 a1 _ W h (by omega) H (by omega) q)
  · rw [if_pos (by omega)] at q
    have e : nAb v = -v := by unfold nAb; rw [if_pos (by omega)]
    rw [e] at q nb a0 a1
    refine m_put H (by omega) (by decide) (by decide) (fun h2 H2 F2 G2 => ?_)
    refine m_unit a0 a1 17 0 rfl (m_dgts a0 a1 _ _ h2 (by omega) H2 (by rw [len1]; omega) (fun h3 H3 F3 => q h3 ?_ (mFrN.tr ⟨F2, G2⟩ F3)))
    rw [List.append_assoc] at H3
    exact H3
end
