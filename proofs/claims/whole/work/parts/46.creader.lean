/-! THE CLASS'S READER: leaves. h0: the heap as reading began; only 597 and 24 .. 31 change -/
theorem nd_app0 {L : NL} {x : Nd} {i : Int} (h0 : 0 ≤ i) (h1 : i < ln L) : nd (L ++ [x]) i = nd L i := by
  unfold nd
  unfold ln at h1
  rw [List.getD_eq_getElem?_getD, List.getD_eq_getElem?_getD, List.getElem?_append_left (by omega)]
theorem nd_app1 {L : NL} {x : Nd} : nd (L ++ [x]) (ln L) = x := by
  unfold nd ln
  rw [List.getD_eq_getElem?_getD, List.getElem?_append_right (by omega)]
  simp
theorem cN_k {n : Int} {L : NL} {h : Hp} : cN n L h ↔ h n 9 = ln L ∧ ∀ k : Nat, k < 7 → ∀ i : Int, 0 ≤ i → i < ln L → h (n + 1 + k) i = nd L i k := by
  constructor
  · intro H
    refine ⟨H.1, fun k hk i i0 i1 => ?_⟩
    have := H.2 i i0 i1
    match k, hk with
    | 0, _ => rw [show n + 1 + ((0 : Nat) : Int) = n + 1 by omega]; exact this.1
    | 1, _ => rw [show n + 1 + ((1 : Nat) : Int) = n + 2 by omega]; exact this.2.1
    | 2, _ => rw [show n + 1 + ((2 : Nat) : Int) = n + 3 by omega]; exact this.2.2.1
    | 3, _ => rw [show n + 1 + ((3 : Nat) : Int) = n + 4 by omega]; exact this.2.2.2.1
    | 4, _ => rw [show n + 1 + ((4 : Nat) : Int) = n + 5 by omega]; exact this.2.2.2.2.1
    | 5, _ => rw [show n + 1 + ((5 : Nat) : Int) = n + 6 by omega]; exact this.2.2.2.2.2.1
    | 6, _ => rw [show n + 1 + ((6 : Nat) : Int) = n + 7 by omega]; exact this.2.2.2.2.2.2
  · intro H
    refine ⟨H.1, fun i i0 i1 => ?_⟩
    have e := fun k hk => H.2 k hk i i0 i1
    refine ⟨?_, ?_, ?_, ?_, ?_, ?_, ?_⟩
    · have := e 0 (by decide); rwa [show n + 1 + ((0 : Nat) : Int) = n + 1 by omega] at this
    · have := e 1 (by decide); rwa [show n + 1 + ((1 : Nat) : Int) = n + 2 by omega] at this
    · have := e 2 (by decide); rwa [show n + 1 + ((2 : Nat) : Int) = n + 3 by omega] at this
    · have := e 3 (by decide); rwa [show n + 1 + ((3 : Nat) : Int) = n + 4 by omega] at this
    · have := e 4 (by decide); rwa [show n + 1 + ((4 : Nat) : Int) = n + 5 by omega] at this
    · have := e 5 (by decide); rwa [show n + 1 + ((5 : Nat) : Int) = n + 6 by omega] at this
    · have := e 6 (by decide); rwa [show n + 1 + ((6 : Nat) : Int) = n + 7 by omega] at this
/-- a field of the last node is set -/
theorem cN_set {L : NL} {x y : Nd} {h h' : Hp} {a v : Int} (k : Nat) (hk : k < 7) (H : cN 24 (L ++ [x]) h) (ea : a = 25 + k) (e : h' = hup h a (ln L) v) (hy : y k = v) (hx : ∀ j : Nat, j < 7 → j ≠ k → y j = x j) : cN 24 (L ++ [y]) h' := by
  have H := cN_k.mp H
  refine cN_k.mpr ⟨?_, fun j hj i i0 i1 => ?_⟩
  · rw [e, hup_ne (by omega), H.1, ln_app, ln_app, ln_1, ln_1]
  · rw [ln_app, ln_1] at i1
    have := H.2 j hj i i0 (by rw [ln_app, ln_1]; exact i1)
    by_cases c : i < ln L
    · rw [nd_app0 i0 c] at this ⊢
      rw [e, hup_nj (by omega), this]
    · have c : i = ln L := by omega
      subst c
      rw [nd_app1] at this ⊢
      by_cases c2 : j = k
      · subst c2
        subst ea
        rw [e, show (24 : Int) + 1 + j = 25 + j by omega, hup_at, hy]
      · rw [e, hup_ne (by omega), this, hx j hj c2]
def DSt (h0 : Hp) (mo : Int) (L : NL) (h : Hp) : Prop := (∀ a : Int, a ≠ 597 → ¬ (24 ≤ a ∧ a ≤ 31) → h a = h0 a) ∧ cN 24 L h ∧ h 597 4 = mo
def RSt (h0 : Hp) (ip : Bool) (mo : Int) (L : NL) (p : Int) (h : Hp) : Prop := DSt h0 mo L h ∧ h 597 3 = cb (ip = true) ∧ h 597 5 = p ∧ h 597 7 = 0 ∧ h 597 8 = -1
def RFt (h0 : Hp) (f p : Int) (h : Hp) : Prop := (∀ a : Int, a ≠ 597 → ¬ (24 ≤ a ∧ a ≤ 31) → h a = h0 a) ∧ h 597 7 = f ∧ h 597 8 = p
section
variable {g : Gl} {d : Nat} {h h0 : Hp} {E : Ev} {B : Int → Int} {n : Int} {ip : Bool} {mo : Int} {L : NL} {p : Int}
theorem DSt.ce (D : DSt h0 mo L h) (ce : cE E h0) : cE E h := ce.to (D.1 5 (by decide) (by decide)) (D.1 6 (by decide) (by decide)) (D.1 7 (by decide) (by decide)) (D.1 8 (by decide) (by decide)) (D.1 9 (by decide) (by decide))
theorem DSt.cx (D : DSt h0 mo L h) (cx : cX 10 1000 B n h0) : cX 10 1000 B n h := cx.to (by rw [D.1 10 (by decide) (by decide)]) (D.1 (10 + 1) (by decide) (by decide))
/-- a change of a field of 597 other than 4 -/
theorem DSt.f (D : DSt h0 mo L h) {j v : Int} (hj : j ≠ 4) : DSt h0 mo L (hup h 597 j v) := ⟨fun a c1 c2 => by rw [hup_r c1]; exact D.1 a c1 c2, D.2.1.to (by rw [hup_ne (by decide)]) (fun k k0 k1 => hup_r (by omega)), by rw [hup_nj (Ne.symm hj)]; exact D.2.2⟩
theorem RSt.ps (R : RSt h0 ip mo L p h) {h' : Hp} {q : Int} (e : h' = hup h 597 5 q) : RSt h0 ip mo L q h' := by
  subst e
  exact ⟨R.1.f (by decide), by rw [hup_nj (by decide)]; exact R.2.1, hup_at, by rw [hup_nj (by decide)]; exact R.2.2.2.1, by rw [hup_nj (by decide)]; exact R.2.2.2.2⟩
theorem RSt.v (R : RSt h0 ip mo L p h) {h' : Hp} {q : Int} (e : h' = hup h 597 6 q) : RSt h0 ip mo L p h' := by
  subst e
  exact ⟨R.1.f (by decide), by rw [hup_nj (by decide)]; exact R.2.1, by rw [hup_nj (by decide)]; exact R.2.2.1, by rw [hup_nj (by decide)]; exact R.2.2.2.1, by rw [hup_nj (by decide)]; exact R.2.2.2.2⟩
theorem DSt.set {x y : Nd} (D : DSt h0 mo (L ++ [x]) h) {h' : Hp} {a v : Int} (k : Nat) (hk : k < 7) (ea : a = 25 + k) (e : h' = hup h a (ln L) v) (hy : y k = v) (hx : ∀ j : Nat, j < 7 → j ≠ k → y j = x j) : DSt h0 mo (L ++ [y]) h' :=
  ⟨fun b c1 c2 => by rw [e, hup_r (by omega)]; exact D.1 b c1 c2, cN_set k hk D.2.1 ea e hy hx, by rw [e, hup_ne (by omega)]; exact D.2.2⟩
theorem RSt.set {x y : Nd} (R : RSt h0 ip mo (L ++ [x]) p h) {h' : Hp} {a v : Int} (k : Nat) (hk : k < 7) (ea : a = 25 + k) (e : h' = hup h a (ln L) v) (hy : y k = v) (hx : ∀ j : Nat, j < 7 → j ≠ k → y j = x j) : RSt h0 ip mo (L ++ [y]) p h' :=
  ⟨R.1.set k hk ea e hy hx, by rw [e, hup_ne (by omega)]; exact R.2.1, by rw [e, hup_ne (by omega)]; exact R.2.2.1, by rw [e, hup_ne (by omega)]; exact R.2.2.2.1, by rw [e, hup_ne (by omega)]; exact R.2.2.2.2⟩
theorem cX.b (X : cX 10 1000 B n h) {i : Int} (i0 : 0 ≤ i) (i1 : i < n) : h 11 i = B i := (X.2.2.2 i i0 i1).1
theorem c_skip (cx : cX 10 1000 B n h0) {Q : Hp → Prop} (R : RSt h0 ip mo L p h) (p0 : 0 ≤ p) (p1 : p ≤ n) (q : ∀ h' : Hp, RSt h0 ip mo L (bl B n p) h' → h' 597 6 = h 597 6 → Q h') : Good g (d + 1) i7_skipBlanks [LR 7 597] S0 h S0 (retV Q) := by
  have key : ∀ (k : Nat) (p : Int) (h : Hp), (n - p).toNat = k → RSt h0 ip mo L p h → 0 ≤ p → p ≤ n → (∀ h' : Hp, RSt h0 ip mo L (bl B n p) h' → h' 597 6 = h 597 6 → Q h') → L0 g d m7_skipBlanks (retV Q) 0 [some (LR 7 597)] h := by
    intro k
    induction k with
    | zero =>
      intro p h hp R p0 p1 q
      have X := R.1.cx cx
      refine v7_skipBlanks_0 ⟨fun _ => q h ?_ rfl, fun c => absurd (show h 10 1 ≤ h 597 5 by rw [X.1, R.2.2.1]; omega) c⟩
      rw [bl_s, if_neg (fun z => by omega)]
      exact R
    | succ k ih =>
      intro p h hp R p0 p1 q
      have X := R.1.cx cx
      have n1 := X.2.2.1
      refine v7_skipBlanks_0 ?_
      rw [X.1, R.2.2.1, X.b (i := p) p0 (by omega), w32_id (by omega) (by omega)]
      rw [bl_s] at q
      refine ⟨fun c => absurd c (by omega), fun _ => ⟨p0, by omega, fun c h3 e => ?_, fun c => ⟨fun c2 => q h ?_ rfl, fun c2 h3 e => ?_⟩⟩⟩
      · rw [if_pos ⟨by omega, Or.inl c⟩] at q
        exact ih (p + 1) h3 (by omega) (R.ps e) (by omega) (by omega) (fun h' R' e' => q h' R' (by rw [e', e, hup_nj (by decide)]))
      · rw [if_neg (fun z => by omega)]
        exact R
      · rw [if_pos ⟨by omega, Or.inr c2⟩] at q
        exact ih (p + 1) h3 (by omega) (R.ps e) (by omega) (by omega) (fun h' R' e' => q h' R' (by rw [e', e, hup_nj (by decide)]))
  exact g7_skipBlanks (key _ p h rfl R p0 p1 q)
theorem c_byte (cx : cX 10 1000 B n h0) {Q : Int → Hp → Prop} (D : DSt h0 mo L h) {x : Int} (q : Q (byt B n x) h) : Good g (d + 1) i8_byteAt [LR 8 10, LI x] S0 h S0 (retI Q) :=
  f_byteAt (c := 1000) (by decide) rfl (D.cx cx) (fun x0 x1 => by rwa [byt_at x0 x1] at q) (fun c => by rwa [byt_no c] at q)
theorem c_fail {Q : Int → Hp → Prop} {f q0 : Int} (F : ∀ a : Int, a ≠ 597 → ¬ (24 ≤ a ∧ a ≤ 31) → h a = h0 a) (q : ∀ h' : Hp, RFt h0 f q0 h' → (∀ a : Int, a ≠ 597 → h' a = h a) → (∀ j : Int, j ≠ 7 → j ≠ 8 → h' 597 j = h 597 j) → Q 0 h') : Good g (d + 1) i7_fail [LR 7 597, LI f, LI q0] S0 h S0 (retI Q) := by
  refine g7_fail (fun _ _ => v7_fail (fun h1 e1 h2 e2 => q h2 ⟨fun a c1 c2 => ?_, ?_, ?_⟩ (fun a c => ?_) (fun j c1 c2 => ?_)))
  · rw [e2, hup_r c1, e1, hup_r c1]; exact F a c1 c2
  · rw [e2, hup_nj (by decide), e1, hup_at]
  · rw [e2, hup_at]
  · rw [e2, hup_r c, e1, hup_r c]
  · rw [e2, hup_nj c2, e1, hup_nj c1]
theorem c_endOfDigits (cx : cX 10 1000 B n h0) {Q : Int → Hp → Prop} (D : DSt h0 mo L h) {x : Int} (x0 : 0 ≤ x) (x1 : x ≤ n) (q : Q (dg B n x) h) : Good g (d + 1) i7_endOfDigits [LR 7 597, LI x] S0 h S0 (retI Q) := by
  have X := D.cx cx
  have n1 := X.2.2.1
  have key : ∀ (k : Nat) (x : Int), (n - x).toNat = k → 0 ≤ x → x ≤ n → Q (dg B n x) h → L0 g d m7_endOfDigits (retI Q) 2 [some (LR 7 597), none, some (LI x)] h := by
    intro k
    induction k with
    | zero =>
      intro x hx x0 x1 q
      rw [dg_s, if_neg (fun z => by omega)] at q
      exact v7_endOfDigits_2 ⟨fun _ => q, fun c => absurd (show h 10 1 ≤ x by rw [X.1]; omega) c⟩
    | succ k ih =>
      intro x hx x0 x1 q
      refine v7_endOfDigits_2 ?_
      rw [X.1, X.b (i := x) x0 (by omega), w32_id (by omega) (by omega)]
      rw [dg_s] at q
      refine ⟨fun c => absurd c (by omega), fun _ => ⟨x0, by omega, fun c => ?_, fun c => ⟨fun c2 => ?_, fun c2 => ?_⟩⟩⟩
      · rwa [if_neg (fun z => by omega)] at q
      · rwa [if_neg (fun z => by omega)] at q
      · rw [if_pos ⟨by omega, by omega, by omega⟩] at q
        exact ih (x + 1) (by omega) (by omega) (by omega) q
  exact g7_endOfDigits (fun _ => v7_endOfDigits (key _ x rfl x0 x1 q))
theorem c_takeDigits (cx : cX 10 1000 B n h0) {Q : Hp → Prop} (R : RSt h0 ip mo L p h) {x e : Int} (x0 : 0 ≤ x) (x1 : x ≤ e) (e1 : e ≤ n) (e2 : e - x ≤ 18) (hd : ∀ i : Int, x ≤ i → i < e → 48 ≤ B i ∧ B i ≤ 57) (q : ∀ h' : Hp, RSt h0 ip mo L e h' → h' 597 6 = vl B (e - x).toNat 0 x → Q h') : Good g (d + 1) i7_takeDigits [LR 7 597, LI x, LI e] S0 h S0 (retV Q) := by
  have key : ∀ (k : Nat) (y a : Int) (m : Nat) (h : Hp), (e - y).toNat = k → k + m = (e - x).toNat → RSt h0 ip mo L p h → x ≤ y → y ≤ e → h 597 6 = a → 0 ≤ a → a < (10 : Int) ^ m → (∀ h' : Hp, RSt h0 ip mo L e h' → h' 597 6 = vl B k a y → Q h') → L0 g d m7_takeDigits (retV Q) 7 [some (LR 7 597), none, some (LI e), some (LI y)] h := by
    intro k
    induction k with
    | zero =>
      intro y a m h hk hm R y0 y1 ha a0 a1 q
      refine v7_takeDigits_7 ⟨fun _ h2 e2 => q h2 (R.ps e2) (by rw [e2, hup_nj (by decide), ha]; rfl), fun c => absurd (by omega) c⟩
    | succ k ih =>
      intro y a m h hk hm R y0 y1 ha a0 a1 q
      have X := R.1.cx cx
      have n1 := X.2.2.1
      have dy := hd y y0 (by omega)
      have b := vl_b (B := B) 1 a y m (fun i i0 i1 => hd i (by omega) (by omega)) a0 a1
      have b : 0 ≤ a * 10 + (B y - 48) ∧ a * 10 + (B y - 48) < 10 ^ (m + 1) := b
      have b18 : (10 : Int) ^ (m + 1) ≤ 10 ^ 18 := by
        have := Nat.pow_le_pow_right (n := 10) (by decide) (show m + 1 ≤ 18 by omega)
        exact_mod_cast this
      have e18 : (10 : Int) ^ 18 = 1000000000000000000 := by decide
      refine v7_takeDigits_7 ?_
      rw [X.1, X.b (i := y) (by omega) (by omega), ha, w32_id (x := B y - 48) (by omega) (by omega), w64_id (x := a * 10) (by omega) (by omega), w64_id (by omega) (by omega), w32_id (by omega) (by omega)]
      refine ⟨fun c => absurd c (by omega), fun _ => ⟨fun c => absurd c (by omega), fun _ => ⟨by omega, by omega, fun h5 e5 => ?_⟩⟩⟩
      exact ih (y + 1) _ (m + 1) h5 (by omega) (by omega) (R.v e5) (by omega) (by omega) (by rw [e5, hup_at]) b.1 b.2 q
  refine g7_takeDigits (fun _ _ => v7_takeDigits (fun h1 e1 => ?_))
  exact key _ x 0 0 h1 rfl (by omega) (R.v e1) (by omega) x1 (by rw [e1, hup_at]) (by decide) (by decide) q
theorem c_readNumber (cx : cX 10 1000 B n h0) {Q : Int → Hp → Prop} (R : RSt h0 ip mo L p h) (p0 : 0 ≤ p) (p1 : p ≤ n) (q1 : (nuR B n p).1 = 0 → ∀ h' : Hp, RSt h0 ip mo L (nuR B n p).2.1 h' → h' 597 6 = (nuR B n p).2.2 → Q 1 h') (q2 : (nuR B n p).1 ≠ 0 → ∀ h' : Hp, DSt h0 mo L h' → RFt h0 (nuR B n p).1 (nuR B n p).2.1 h' → Q 0 h') : Good g (d + 2) i7_readNumber [LR 7 597] S0 h S0 (retI Q) := by
  have X := R.1.cx cx
  have n1 := X.2.2.1
  have hf := nuF_in (B := B) p0 p1
  have hd := dg_p (B := B) (n := n) (p := nuF B n p)
  have hd2 := hd.2.1 hf.2
  have bad : ∀ {h' : Hp} {f x : Int}, RFt h0 f x h' → (∀ a : Int, a ≠ 597 → h' a = h a) → (∀ j : Int, j ≠ 7 → j ≠ 8 → h' 597 j = h 597 j) → DSt h0 mo L h' := fun F c1 c2 => ⟨F.1, R.1.2.1.to (by rw [c1 24 (by decide)]) (fun k k0 k1 => c1 _ (by omega)), by rw [c2 4 (by decide) (by decide)]; exact R.1.2.2⟩
  refine g7_readNumber (v7_readNumber (c_byte cx R.1 ?_))
  rw [R.2.2.1, w32_id (x := p + 1) (by omega) (by omega)]
  unfold nuR at q1 q2
  unfold nuF at q1 q2 hf hd hd2
  refine ⟨fun c => ?_, fun c => ?_⟩
  · rw [if_neg c] at hf hd hd2
    rw [if_neg c, if_neg c] at q1 q2
    refine c_endOfDigits cx R.1 p0 p1 ?_
    rw [w32_id (x := dg B n p - p) (by omega) (by omega)]
    refine ⟨fun c2 => ⟨fun c3 => ?_, fun c3 => ?_⟩, fun c2 => ?_⟩
    · rw [if_neg (by omega), if_neg c3] at q1
      refine c_takeDigits cx R p0 (by omega) hd2 c2 hd.2.2 (fun h10 R10 e10 h12 e12 => q1 rfl h12 (R10.v e12) (by rw [e12, hup_at, e10]))
    · rw [if_neg (by omega), if_pos c3] at q2
      exact c_fail R.1.1 (fun h' F c1 c2 => ⟨Or.inl rfl, q2 (by simp) h' (bad F c1 c2) F⟩)
    · rw [if_pos (by omega)] at q2
      rw [R.2.2.1]
      exact c_fail R.1.1 (fun h' F c1 c2 => ⟨Or.inl rfl, q2 (by simp) h' (bad F c1 c2) F⟩)
  · rw [if_pos c] at hf hd hd2
    rw [if_pos c, if_pos c] at q1 q2
    refine c_endOfDigits cx R.1 (by omega) hf.2 ?_
    rw [w32_id (x := dg B n (p + 1) - (p + 1)) (by omega) (by omega)]
    refine ⟨fun c2 => ⟨fun c3 => ?_, fun c3 => ?_⟩, fun c2 => ?_⟩
    · rw [if_neg (by omega), if_neg c3] at q1
      have hv := vl_18 (B := B) (q := p + 1) (e := dg B n (p + 1)) (by omega) hd.1 hd.2.2
      refine c_takeDigits cx R (by omega) (by omega) hd2 c2 hd.2.2 (fun h10 R10 e10 h12 e12 => q1 rfl h12 (R10.v e12) ?_)
      rw [e12, hup_at, e10, w64_id (by omega) (by omega)]
    · rw [if_neg (by omega), if_pos c3] at q2
      exact c_fail R.1.1 (fun h' F c1 c2 => ⟨Or.inl rfl, q2 (by simp) h' (bad F c1 c2) F⟩)
    · rw [if_pos (by omega)] at q2
      rw [R.2.2.1]
      exact c_fail R.1.1 (fun h' F c1 c2 => ⟨Or.inl rfl, q2 (by simp) h' (bad F c1 c2) F⟩)
theorem c_addNode {Q : Int → Hp → Prop} {s st : Int} {x : Nd} (hmo : mo ≤ 120) (D : DSt h0 mo L h) (e0 : x 0 = s) (e1 : x 1 = -1) (e2 : x 2 = 0) (e3 : x 3 = -1) (e4 : x 4 = 0) (e5 : x 5 = 0) (e6 : x 6 = 0) (q1 : ln L < mo → ∀ h' : Hp, DSt h0 mo (L ++ [x]) h' → h' 597 = h 597 → Q (ln L) h') (q2 : ¬ ln L < mo → ∀ h' : Hp, RFt h0 4 st h' → Q (-1) h') : Good g (d + 2) i7_addNode [LR 7 597, LI s, LI st] S0 h S0 (retI Q) := by
  have l0 := ln_nn L
  refine g7_addNode (fun _ _ => v7_addNode ?_)
  rw [D.2.2, D.2.1.1]
  refine ⟨fun c => c_fail D.1 (fun h' F _ _ => q2 (by omega) h' F), fun c => g5_add (fun _ _ => v5_add (by decide) ?_)⟩
  rw [D.2.1.1]
  refine ⟨fun _ => ⟨l0, show ln L < 120 by omega, fun h2 k2 => ⟨show ln L < 120 by omega, fun h3 k3 => ⟨show ln L < 120 by omega, fun h4 k4 => ⟨show ln L < 120 by omega, fun h5 k5 => ⟨show ln L < 120 by omega, fun h6 k6 => ⟨show ln L < 120 by omega, fun h7 k7 => ⟨show ln L < 120 by omega, fun h8 k8 h9 k9 => ?_⟩⟩⟩⟩⟩⟩⟩, fun c2 => absurd (show ln L < 120 by omega) c2⟩
  have a8 : h8 24 9 = ln L := by rw [k8, hup_ne (by decide), k7, hup_ne (by decide), k6, hup_ne (by decide), k5, hup_ne (by decide), k4, hup_ne (by decide), k3, hup_ne (by decide), k2, hup_ne (by decide), D.2.1.1]
  rw [a8, w32_id (by omega) (by omega)] at k9
  have row : ∀ b : Int, ¬ (24 ≤ b ∧ b ≤ 31) → h9 b = h b := fun b hb => by
    rw [k9, hup_r (by omega), k8, hup_r (by omega), k7, hup_r (by omega), k6, hup_r (by omega), k5, hup_r (by omega), k4, hup_r (by omega), k3, hup_r (by omega), k2, hup_r (by omega)]
  have old : ∀ (b i : Int), b ≠ 24 → i ≠ ln L → h9 b i = h b i := fun b i hb hi => by
    rw [k9, hup_ne hb, k8, hup_nj hi, k7, hup_nj hi, k6, hup_nj hi, k5, hup_nj hi, k4, hup_nj hi, k3, hup_nj hi, k2, hup_nj hi]
  refine ⟨fun c2 => q1 (by omega) h9 ⟨fun a c1 c2 => by rw [row a c2]; exact D.1 a c1 c2, ?_, by rw [row 597 (by decide)]; exact D.2.2⟩ (row 597 (by decide)), fun c2 => absurd c2 (by omega)⟩
  refine ⟨by rw [k9, hup_at, ln_app, ln_1], fun i i0 i1 => ?_⟩
  rw [ln_app, ln_1] at i1
  by_cases ci : i = ln L
  · subst ci
    rw [nd_app1, e0, e1, e2, e3, e4, e5, e6]
    refine ⟨?_, ?_, ?_, ?_, ?_, ?_, ?_⟩
    · rw [k9, hup_ne (by decide), k8, hup_ne (by decide), k7, hup_ne (by decide), k6, hup_ne (by decide), k5, hup_ne (by decide), k4, hup_ne (by decide), k3, hup_ne (by decide), k2, hup_at]
    · rw [k9, hup_ne (by decide), k8, hup_ne (by decide), k7, hup_ne (by decide), k6, hup_ne (by decide), k5, hup_ne (by decide), k4, hup_ne (by decide), k3, hup_at]
    · rw [k9, hup_ne (by decide), k8, hup_ne (by decide), k7, hup_ne (by decide), k6, hup_ne (by decide), k5, hup_ne (by decide), k4, hup_at]
    · rw [k9, hup_ne (by decide), k8, hup_ne (by decide), k7, hup_ne (by decide), k6, hup_ne (by decide), k5, hup_at]
    · rw [k9, hup_ne (by decide), k8, hup_ne (by decide), k7, hup_ne (by decide), k6, hup_at]
    · rw [k9, hup_ne (by decide), k8, hup_ne (by decide), k7, hup_at]
    · rw [k9, hup_ne (by decide), k8, hup_at]
  · rw [nd_app0 i0 (by omega)]
    have := D.2.1.2 i i0 (by omega)
    rw [old (24 + 1) i (by decide) ci, old (24 + 2) i (by decide) ci, old (24 + 3) i (by decide) ci, old (24 + 4) i (by decide) ci, old (24 + 5) i (by decide) ci, old (24 + 6) i (by decide) ci, old (24 + 7) i (by decide) ci]
    exact this
end
