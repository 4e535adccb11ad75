/-! THE MODEL'S READER: leaves; only fields 17 .. 28 of 608 (but 23) and 614 .. 624 change -/
theorem hup_self {h : Hp} {a i v : Int} (e : h a i = v) : hup h a i v = h := by
  funext b j
  unfold hup
  split
  · rename_i c
    rw [c.1, c.2, e]
  · rfl
theorem hup_hup {h : Hp} {a i v w : Int} : hup (hup h a i v) a i w = hup h a i w := by
  funext b j
  unfold hup
  split
  · rfl
  · rfl
def MBs (h0 h : Hp) : Prop := (∀ a : Int, a ≠ 608 → ¬ (614 ≤ a ∧ a ≤ 624) → h a = h0 a) ∧ ∀ j : Int, (j < 17 ∨ j = 23 ∨ 28 < j) → h 608 j = h0 608 j
section
variable {g : Gl} {d : Nat} {h h0 : Hp} {E : Ev} {B : Int → Int} {n : Int} {p : Int}
theorem MBs.me (M : MBs h0 h) (me : mE E h0) : mE E h := me.to (M.2 0 (by decide)) (M.2 2 (by decide)) (M.1 609 (by decide) (by decide)) (M.1 610 (by decide) (by decide)) (M.1 611 (by decide) (by decide)) (M.1 612 (by decide) (by decide))
theorem MBs.mx (M : MBs h0 h) (mx : mX B n h0) : mX B n h := mx.to (M.2 7 (by decide)) (M.1 613 (by decide) (by decide))
theorem MBs.f (M : MBs h0 h) {j v : Int} (hj : ¬ (j < 17 ∨ j = 23 ∨ 28 < j)) : MBs h0 (hup h 608 j v) := ⟨fun a c1 c2 => by rw [hup_r c1]; exact M.1 a c1 c2, fun k hk => by rw [hup_nj (fun z => by subst z; exact hj hk)]; exact M.2 k hk⟩
theorem MBs.r (M : MBs h0 h) {a i v : Int} (ha : 614 ≤ a ∧ a ≤ 624) : MBs h0 (hup h a i v) := ⟨fun b c1 c2 => by rw [hup_r (fun z => by subst z; exact c2 ha)]; exact M.1 b c1 c2, fun k hk => by rw [hup_ne (by omega)]; exact M.2 k hk⟩
theorem w8_eq {b c : Int} (b0 : 0 ≤ b) (b1 : b < 256) (c0 : 0 ≤ c) (c1 : c < 128) : w8 b = c ↔ b = c := by
  rw [w8_s b0 b1]
  split <;> omega
theorem w8_dig {b : Int} (b0 : 0 ≤ b) (b1 : b < 256) : (48 ≤ w8 b ∧ w8 b ≤ 57) ↔ (48 ≤ b ∧ b ≤ 57) := by
  rw [w8_s b0 b1]
  split <;> omega
theorem m_blanks (mx : mX B n h) {Q : Hp → Prop} (hp : h 608 20 = p) (p0 : 0 ≤ p) (q : ∀ h' : Hp, h' = hup h 608 20 (bl B n p) → Q h') : Good g (d + 1) i10_blanks [LR 10 608] S0 h S0 (retV Q) := by
  have key : ∀ (k : Nat) (p : Int) (h : Hp), mX B n h → (n - p).toNat = k → h 608 20 = p → 0 ≤ p → (∀ h' : Hp, h' = hup h 608 20 (bl B n p) → Q h') → L0 g d m10_blanks (retV Q) 0 [some (LR 10 608)] h := by
    intro k
    induction k with
    | zero =>
      intro p h mx hk hp p0 q
      refine v10_blanks_0 ⟨fun _ => q h ?_, fun c => absurd (show h 608 7 ≤ h 608 20 by rw [mx.1, hp]; omega) c⟩
      rw [bl_s, if_neg (fun z => by omega), hup_self hp]
    | succ k ih =>
      intro p h mx hk hp p0 q
      have n1 := mx.2.2.1
      have b := mx.2.2.2 p p0 (by omega)
      refine v10_blanks_0 ?_
      rw [mx.1, hp, b.1, w8_eq b.2.1 b.2.2 (by decide) (by decide), w8_eq b.2.1 b.2.2 (by decide) (by decide), w32_id (by omega) (by omega)]
      rw [bl_s] at q
      refine ⟨fun c => absurd c (by omega), fun _ => ⟨p0, by omega, fun c h3 e => ?_, fun c => ⟨fun c2 => q h ?_, fun c2 h3 e => ?_⟩⟩⟩
      · rw [if_pos ⟨by omega, Or.inl c⟩] at q
        exact ih (p + 1) h3 (mx.to (by rw [e, hup_nj (by decide)]) (by rw [e, hup_r (by decide)])) (by omega) (by rw [e, hup_at]) (by omega) (fun h' e' => q h' (by rw [e', e, hup_hup]))
      · rw [if_neg (fun z => by omega), hup_self hp]
      · rw [if_pos ⟨by omega, Or.inr c2⟩] at q
        exact ih (p + 1) h3 (mx.to (by rw [e, hup_nj (by decide)]) (by rw [e, hup_r (by decide)])) (by omega) (by rw [e, hup_at]) (by omega) (fun h' e' => q h' (by rw [e', e, hup_hup]))
  exact g10_blanks (key _ p h mx rfl hp p0 q)
theorem m_here (mx : mX B n h) {Q : Int → Hp → Prop} (hp : h 608 20 = p) (p0 : 0 ≤ p) (q : Q (byt B n p) h) : Good g (d + 1) i10_here [LR 10 608] S0 h S0 (retI Q) := by
  refine g10_here (v10_here ?_)
  rw [mx.1, hp]
  refine ⟨fun c => ?_, fun c => ⟨p0, by have := mx.2.2.1; omega, ?_⟩⟩
  · rwa [byt_no (by omega)] at q
  · have b := mx.2.2.2 p p0 (by omega)
    rw [b.1, and_w8 b.2.1 b.2.2]
    rwa [byt_at p0 (by omega)] at q
theorem m_fine {Q : Int → Hp → Prop} (q : Q (cb (h 608 21 = 0)) h) : Good g (d + 1) i10_fine [LR 10 608] S0 h S0 (retI Q) := by
  refine g10_fine (v10_fine ⟨fun c => ?_, fun c => ?_⟩)
  · rwa [cb_f c] at q
  · rwa [cb_t c] at q
theorem m_wrong {Q : Hp → Prop} {f x : Int} (q1 : h 608 21 = 0 → ∀ h' : Hp, h' = hup (hup h 608 21 f) 608 22 x → Q h') (q2 : h 608 21 ≠ 0 → Q h) : Good g (d + 1) i10_wrong [LR 10 608, LI f, LI x] S0 h S0 (retV Q) :=
  g10_wrong (fun _ _ => v10_wrong ⟨q2, fun c h2 e2 h3 e3 => q1 c h3 (by rw [e3, e2])⟩)
theorem m_isDigit {Q : Int → Hp → Prop} {x : Int} (q : Q (cb (48 ≤ x ∧ x ≤ 57)) h) : Good g (d + 2) i10_isDigit [LI x] S0 h S0 (retI Q) :=
  g10_isDigit (fun _ => v10_isDigit (m_in ⟨cb_01 _, q⟩))
theorem m_digitsFrom (mx : mX B n h) {Q : Int → Hp → Prop} {x : Int} (x0 : 0 ≤ x) (x1 : x ≤ 2000) (q : Q (dg B n x - x) h) : Good g (d + 3) i10_digitsFrom [LR 10 608, LI x] S0 h S0 (retI Q) := by
  have n1 := mx.2.2.1
  have key : ∀ (k : Nat) (y : Int), (n - (x + y)).toNat = k → 0 ≤ y → (y = 0 ∨ x + y ≤ n) → Q (dg B n (x + y) - x) h → L0 g (d + 2) m10_digitsFrom (retI Q) 2 [some (LR 10 608), some (LI x), some (LI y)] h := by
    intro k
    induction k with
    | zero =>
      intro y hk y0 y1 q
      rw [dg_s, if_neg (fun z => by omega), show x + y - x = y by omega] at q
      refine v10_digitsFrom_2 ?_
      rw [mx.1, w32_id (by omega) (by omega)]
      exact ⟨fun _ => q, fun c => absurd (by omega) c⟩
    | succ k ih =>
      intro y hk y0 y1 q
      refine v10_digitsFrom_2 ?_
      have b := mx.2.2.2 (x + y) (by omega) (by omega)
      rw [mx.1, w32_id (by omega) (by omega), b.1]
      rw [dg_s] at q
      refine ⟨fun c => absurd c (by omega), fun _ => ⟨by omega, by omega, m_isDigit ?_⟩⟩
      rw [cb_c (w8_dig b.2.1 b.2.2), w32_id (by omega) (by omega)]
      refine bz (fun c => ?_) (fun c => ?_)
      · rwa [if_neg (fun z => c z.2), show x + y - x = y by omega] at q
      · rw [if_pos ⟨by omega, c⟩, show x + y + 1 = x + (y + 1) by omega] at q
        exact ih (y + 1) (by omega) (by omega) (by omega) q
  refine g10_digitsFrom (fun _ => v10_digitsFrom (key _ 0 rfl (by decide) (Or.inl rfl) ?_))
  rw [show x + 0 = x by omega]
  exact q
theorem m_digits (mx : mX B n h) {Q : Int → Hp → Prop} {k : Nat} (hp : h 608 20 = p) (p0 : 0 ≤ p) (k18 : k ≤ 18) (hk : p + k ≤ n) (hd : ∀ i : Int, p ≤ i → i < p + k → 48 ≤ B i ∧ B i ≤ 57) (q : ∀ h' : Hp, h' = hup h 608 20 (p + k) → Q (vl B k 0 p) h') : Good g (d + 1) i10_digits [LR 10 608, LI k] S0 h S0 (retL Q) := by
  have key : ∀ (j : Nat) (y : Nat) (a : Int) (h : Hp), mX B n h → j + y = k → h 608 20 = p + y → 0 ≤ a → a < (10 : Int) ^ y → (∀ h' : Hp, h' = hup h 608 20 (p + k) → Q (vl B j a (p + y)) h') → L0 g d m10_digits (retL Q) 5 [some (LR 10 608), some (LI k), some (LL a), none, some (LI y)] h := by
    intro j
    induction j with
    | zero =>
      intro y a h mx hj hp a0 a1 q
      refine v10_digits_5 ⟨fun _ => q h ?_, fun c => absurd (by omega) c⟩
      rw [hup_self (by rw [hp]; omega)]
    | succ j ih =>
      intro y a h mx hj hp a0 a1 q
      have n1 := mx.2.2.1
      have dy := hd (p + y) (by omega) (by omega)
      have b := mx.2.2.2 (p + y) (by omega) (by omega)
      have e8 : w8 (B (p + y)) = B (p + y) := (w8_eq b.2.1 b.2.2 (by omega) (by omega)).mpr rfl
      have b1 := vl_b (B := B) 1 a (p + y) y (fun i i0 i1 => hd i (by omega) (by omega)) a0 a1
      have b1 : 0 ≤ a * 10 + (B (p + y) - 48) ∧ a * 10 + (B (p + y) - 48) < 10 ^ (y + 1) := b1
      have b18 : (10 : Int) ^ (y + 1) ≤ 10 ^ 18 := by
        have := Nat.pow_le_pow_right (n := 10) (by decide) (show y + 1 ≤ 18 by omega)
        exact_mod_cast this
      have e18 : (10 : Int) ^ 18 = 1000000000000000000 := by decide
      refine v10_digits_5 ?_
      rw [hp, b.1, e8, w64_id (x := 10 * a) (by omega) (by omega), w64_id (x := 10 * a + B (p + y)) (by omega) (by omega), w64_id (by omega) (by omega), w32_id (x := p + y + 1) (by omega) (by omega), w32_id (by omega) (by omega), show 10 * a + B (p + y) - 48 = a * 10 + (B (p + y) - 48) by omega, show (y : Int) + 1 = ((y + 1 : Nat) : Int) by omega]
      refine ⟨fun c => absurd c (by omega), fun _ => ⟨by omega, by omega, fun h2 e2 => ?_⟩⟩
      exact ih (y + 1) _ h2 (mx.to (by rw [e2, hup_nj (by decide)]) (by rw [e2, hup_r (by decide)])) (by omega) (by rw [e2, hup_at]; omega) b1.1 b1.2 (fun h' e' => by
        have := q h' (by rw [e', e2, hup_hup])
        rwa [show p + ((y + 1 : Nat) : Int) = p + y + 1 by omega])
  exact g10_digits (fun _ => v10_digits (key k 0 0 h mx (by omega) (by rw [hp]; omega) (by decide) (by decide) (fun h' e' => by
    have := q h' e'
    rwa [show p + ((0 : Nat) : Int) = p by omega])))
/-- number: fine ahead of it -/
theorem m_number (mx : mX B n h) {Q : Int → Hp → Prop} {x : Int} (hp : h 608 20 = p) (hf : h 608 21 = 0) (p0 : 0 ≤ p) (p1 : p ≤ n)
    (q3 : (nuR B n p).1 = 3 → ∀ h' : Hp, h' = hup (hup h 608 21 3) 608 22 p → Q 0 h')
    (q4 : (nuR B n p).1 ≠ 3 → x ≠ 0 → h 608 17 = h 608 18 → ∀ h' : Hp, h' = hup (hup h 608 21 4) 608 22 p → Q 0 h')
    (q1 : (nuR B n p).1 = 1 → (x = 0 ∨ h 608 17 ≠ h 608 18) → ∀ h' : Hp, h' = hup (hup h 608 21 1) 608 22 (nuR B n p).2.1 → Q 0 h')
    (q0 : (nuR B n p).1 = 0 → (x = 0 ∨ h 608 17 ≠ h 608 18) → ∀ h' : Hp, h' = hup h 608 20 (nuR B n p).2.1 → Q (nuR B n p).2.2 h') : Good g (d + 4) i10_number [LR 10 608, LI x] S0 h S0 (retL Q) := by
  have n1 := mx.2.2.1
  have hf2 := nuF_in (B := B) p0 p1
  have hd := dg_p (B := B) (n := n) (p := nuF B n p)
  have hd2 := hd.2.1 hf2.2
  have hr : ∀ {h' : Hp} {f y : Int}, f ≠ 0 → h' = hup (hup h 608 21 f) 608 22 y → ∀ {y2 y3 : Int}, Q 0 h' → L0 g (d + 3) m10_number (retL Q) 108 [some (LR 10 608), none, some (LI y2), some (LI y3), none, none] h' := by
    intro h' f y hfz e y2 y3 q
    refine v10_number_108 (m_fine ?_)
    have : h' 608 21 = f := by rw [e, hup_nj (by decide), hup_at]
    rw [this]
    exact bn (fun c => absurd c hfz) (fun _ => q)
  refine g10_number (fun _ => v10_number (m_here mx hp p0 ?_))
  unfold nuR at q0 q1 q3 q4
  unfold nuF at hf2 hd hd2 q0 q1 q3 q4
  have wr : ∀ {Q' : Hp → Prop} {f y : Int}, (∀ h' : Hp, h' = hup (hup h 608 21 f) 608 22 y → Q' h') → Good g (d + 3) i10_wrong [LR 10 608, LI f, LI y] S0 h S0 (retV Q') := fun q => m_wrong (fun _ => q) (fun c => absurd hf c)
  rw [hp, w32_id (x := p + 1) (by omega) (by omega)]
  refine ⟨fun c => ?_, fun c => ?_⟩
  · rw [if_neg c] at hf2 hd hd2
    rw [if_neg c, if_neg c] at q0 q1 q3 q4
    refine m_digitsFrom mx p0 (by omega) ?_
    rw [hp]
    have b82 : dg B n p - p ≤ 18 → (x = 0 ∨ h 608 17 ≠ h 608 18) → L0 g (d + 3) m10_number (retL Q) 82 [some (LR 10 608), none, some (LI 0), some (LI (dg B n p - p)), none, none] h := by
      intro c1 c2
      refine v10_number_82 ⟨fun c3 => ?_, fun c3 => ⟨fun _ => ?_, fun z => absurd rfl z⟩⟩
      · rw [if_neg (by omega), if_neg (by omega)] at q0
        refine v10_number_108 (m_fine ?_)
        rw [hf]
        refine bn (fun _ => ⟨fun _ h6 e6 => ?_, fun z => absurd rfl z⟩) (fun z => absurd rfl z)
        rw [hp, w32_id (by omega) (by omega), show p + 0 = p by omega, hup_self hp] at e6
        subst e6
        have := m_digits (g := g) (d := d + 2) (Q := Q) (k := (dg B n p - p).toNat) mx hp p0 (by omega) (by omega) (fun i i0 i1 => hd.2.2 i i0 (by omega)) (fun h' e' => q0 rfl c2 h' (by rw [e', show p + (((dg B n p - p).toNat : Nat) : Int) = dg B n p by omega]))
        rwa [show (((dg B n p - p).toNat : Nat) : Int) = dg B n p - p by omega] at this
      · rw [hp]
        rw [if_neg (by omega), if_pos (by omega)] at q1
        exact wr (fun h' e' => hr (by decide) e' (q1 rfl c2 h' e'))
    refine ⟨fun c1 => ⟨fun c2 => b82 c1 (Or.inl c2), fun c2 => ⟨fun c3 => b82 c1 (Or.inr c3), fun c3 => ?_⟩⟩, fun c1 => ?_⟩
    · refine wr (fun h' e' => hr (by decide) e' (q4 ?_ c2 c3 h' e'))
      rw [if_neg (by omega)]
      split <;> simp
    · rw [if_pos (by omega)] at q3
      exact wr (fun h' e' => hr (by decide) e' (q3 rfl h' e'))
  · rw [if_pos c] at hf2 hd hd2
    rw [if_pos c, if_pos c] at q0 q1 q3 q4
    refine m_digitsFrom mx (by omega) (by omega) ?_
    rw [hp]
    have b82 : dg B n (p + 1) - (p + 1) ≤ 18 → (x = 0 ∨ h 608 17 ≠ h 608 18) → L0 g (d + 3) m10_number (retL Q) 82 [some (LR 10 608), none, some (LI 1), some (LI (dg B n (p + 1) - (p + 1))), none, none] h := by
      intro c1 c2
      refine v10_number_82 ⟨fun c3 => ?_, fun c3 => ⟨fun z => absurd z (by decide), fun _ => ?_⟩⟩
      · rw [if_neg (by omega), if_neg (by omega)] at q0
        have hv := vl_18 (B := B) (q := p + 1) (e := dg B n (p + 1)) (by omega) hd.1 hd.2.2
        refine v10_number_108 (m_fine ?_)
        rw [hf]
        refine bn (fun _ => ⟨fun z => absurd z (by decide), fun _ h10 e10 => ?_⟩) (fun z => absurd rfl z)
        rw [hp, w32_id (by omega) (by omega)] at e10
        have := m_digits (g := g) (d := d + 2) (h := h10) (p := p + 1) (Q := fun r h' => Q (w64 (-r)) h') (k := (dg B n (p + 1) - (p + 1)).toNat) (mx.to (by rw [e10, hup_nj (by decide)]) (by rw [e10, hup_r (by decide)])) (by rw [e10, hup_at]) (by omega) (by omega) (by omega) (fun i i0 i1 => hd.2.2 i i0 (by omega)) (fun h' e' => by
          rw [w64_id (by omega) (by omega)]
          exact q0 rfl c2 h' (by rw [e', e10, hup_hup, show p + 1 + (((dg B n (p + 1) - (p + 1)).toNat : Nat) : Int) = dg B n (p + 1) by omega]))
        rwa [show (((dg B n (p + 1) - (p + 1)).toNat : Nat) : Int) = dg B n (p + 1) - (p + 1) by omega] at this
      · rw [hp, w32_id (by omega) (by omega)]
        rw [if_neg (by omega), if_pos (by omega)] at q1
        exact wr (fun h' e' => hr (by decide) e' (q1 rfl c2 h' e'))
    refine ⟨fun c1 => ⟨fun c2 => b82 c1 (Or.inl c2), fun c2 => ⟨fun c3 => b82 c1 (Or.inr c3), fun c3 => ?_⟩⟩, fun c1 => ?_⟩
    · refine wr (fun h' e' => hr (by decide) e' (q4 ?_ c2 c3 h' e'))
      rw [if_neg (by omega)]
      split <;> simp
    · rw [if_pos (by omega)] at q3
      exact wr (fun h' e' => hr (by decide) e' (q3 rfl h' e'))
end
