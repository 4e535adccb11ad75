/-! THE MODEL'S READER: holes -/
theorem bl_10 {B : Int → Int} {n p : Int} (hn : n ≤ 1000) (h0 : 0 ≤ p) (h1 : p ≤ 1010) : 0 ≤ bl B n p ∧ bl B n p ≤ 1010 := by
  have b := bl_p (B := B) (n := n) (p := p)
  refine ⟨by omega, ?_⟩
  by_cases c : p ≤ n
  · have := b.2.1 c
    omega
  · rw [bl_s, if_neg (fun z => by omega)]
    exact h1
def spF (h h' : Hp) (x : Int) : Prop := (∀ a : Int, a ≠ 608 → a ≠ 619 → a ≠ 620 → a ≠ 621 → h' a = h a) ∧ (∀ a i : Int, a ≠ 608 → i ≠ x → h' a i = h a i) ∧ ∀ j : Int, j ≠ 20 → j ≠ 21 → j ≠ 22 → h' 608 j = h 608 j
theorem spF.rf (h : Hp) (x : Int) : spF h h x := ⟨fun _ _ _ _ _ => rfl, fun _ _ _ _ => rfl, fun _ _ _ _ => rfl⟩
theorem spF.f {h h1 h2 : Hp} {x j v : Int} (F : spF h h1 x) (e : h2 = hup h1 608 j v) (hj : j = 20 ∨ j = 21 ∨ j = 22) : spF h h2 x := by
  subst e
  exact ⟨fun a c0 c1 c2 c3 => by rw [hup_r c0]; exact F.1 a c0 c1 c2 c3, fun a i c0 c1 => by rw [hup_ne c0]; exact F.2.1 a i c0 c1, fun k c0 c1 c2 => by rw [hup_nj (by omega)]; exact F.2.2 k c0 c1 c2⟩
theorem spF.r {h h1 h2 : Hp} {x a v : Int} (F : spF h h1 x) (e : h2 = hup h1 a x v) (ha : a = 619 ∨ a = 620 ∨ a = 621) : spF h h2 x := by
  subst e
  exact ⟨fun b c0 c1 c2 c3 => by rw [hup_r (by omega)]; exact F.1 b c0 c1 c2 c3, fun b i c0 c1 => by rw [hup_nj c1]; exact F.2.1 b i c0 c1, fun k c0 c1 c2 => by rw [hup_ne (by omega)]; exact F.2.2 k c0 c1 c2⟩
theorem spF.mx {h h1 : Hp} {x : Int} {B : Int → Int} {n : Int} (F : spF h h1 x) (mx : mX B n h) : mX B n h1 := mx.to (F.2.2 7 (by decide) (by decide) (by decide)) (F.1 613 (by decide) (by decide) (by decide) (by decide))
section
variable {g : Gl} {d : Nat} {h h0 : Hp} {E : Ev} {B : Int → Int} {n : Int} {ip : Bool} {mo : Int} {L : NL} {p : Int} {s : Stk} {en : Int → Int} {Q : Hp → Prop}
theorem m_take (mx : mX B n h) {c : Int} (hp : h 608 20 = p) (p0 : 0 ≤ p) (p1 : p ≤ 1010) (hf : h 608 21 = 0) (q1 : byt B n p = c → ∀ h' : Hp, h' = hup h 608 20 (p + 1) → Q h') (q2 : byt B n p ≠ c → ∀ h' : Hp, h' = hup (hup h 608 21 1) 608 22 p → Q h') : Good g (d + 2) i10_take [LR 10 608, LI c] S0 h S0 (retV Q) := by
  refine g10_take (fun _ => v10_take (m_fine ?_))
  rw [hf]
  refine bz (fun z => absurd rfl z) (fun _ => m_here mx hp p0 ?_)
  rw [hp, w32_id (by omega) (by omega)]
  exact ⟨fun c1 => m_wrong (fun _ => q2 c1) (fun z => absurd hf z), q1⟩
theorem m_take_f {c : Int} (hf : h 608 21 ≠ 0) (q : Q h) : Good g (d + 2) i10_take [LR 10 608, LI c] S0 h S0 (retV Q) :=
  g10_take (fun _ => v10_take (m_fine (bz (fun _ => q) (fun z => absurd z hf))))
theorem m_readSpan (mx : mX B n h) {x : Int} (x0 : 0 ≤ x) (x1 : x < 121) (hp : h 608 20 = p) (p0 : 0 ≤ p) (p1 : p < n) (hf : h 608 21 = 0)
    (q0 : (spR B n (p + 1)).1 = 0 → ∀ (h' : Hp) (r : Int), spF h h' x → h' 608 20 = r → 0 ≤ r → r ≤ n → bl B n r = (spR B n (p + 1)).2.1 → h' 608 21 = 0 → h' 619 x = 1 → h' 620 x = (spR B n (p + 1)).2.2.1 → h' 621 x = (spR B n (p + 1)).2.2.2 → Q h')
    (q1 : (spR B n (p + 1)).1 ≠ 0 → ∀ h' : Hp, spF h h' x → h' 608 21 = (spR B n (p + 1)).1 → h' 608 22 = (spR B n (p + 1)).2.1 → 0 ≤ h' 608 20 → h' 608 20 ≤ 1010 → Q h') : Good g (d + 5) i10_readSpan [LR 10 608, LI x] S0 h S0 (retV Q) := by
  have n1 := mx.2.2.1
  -- the rest once there is a fault
  have t2 : ∀ {h1 : Hp} {f y : Int}, f ≠ 0 → (∀ h' : Hp, spF h h' x → h' 608 21 = f → h' 608 22 = y → 0 ≤ h' 608 20 → h' 608 20 ≤ 1010 → Q h') → spF h h1 x → h1 608 21 = f → h1 608 22 = y → 0 ≤ h1 608 20 → h1 608 20 ≤ 1010 → Good g (d + 4) i10_blanks [LR 10 608] S0 h1 S0 (retV (fun h2 => Good g (d + 4) i10_take [LR 10 608, LI 93] S0 h2 S0 (retV (fun h3 => Q h3)))) := by
    intro h1 f y hf q F a1 a2 a3 a4
    refine m_blanks (F.mx mx) rfl a3 (fun h2 k2 => m_take_f (by rw [k2, hup_nj (by decide), a1]; exact hf) ?_)
    have := bl_10 (B := B) n1 a3 a4
    exact q h2 (F.f k2 (by decide)) (by rw [k2, hup_nj (by decide), a1]) (by rw [k2, hup_nj (by decide), a2]) (by rw [k2, hup_at]; exact this.1) (by rw [k2, hup_at]; exact this.2)
  refine g10_readSpan (fun _ => v10_readSpan (fun h1 k1 => ?_))
  rw [hp, w32_id (by omega) (by omega)] at k1
  have F1 := (spF.rf h x).f k1 (by decide)
  refine m_blanks (p := p + 1) (F1.mx mx) (by rw [k1, hup_at]) (by omega) (fun h2 k2 => ⟨x0, x1, fun h4 k4 => ?_⟩)
  have F4 := (F1.f k2 (by decide)).r k4 (by decide)
  have b1 := bl_p (B := B) (n := n) (p := p + 1)
  have b1' := b1.2.1 (by omega)
  have r1 := nuR_ok (B := B) (n := n) (p := bl B n (p + 1)) (by omega) b1'
  have p4 : h4 608 20 = bl B n (p + 1) := by rw [k4, hup_ne (by decide), k2, hup_at]
  have f4 : h4 608 21 = 0 := by rw [k4, hup_ne (by decide), k2, hup_nj (by decide), k1, hup_nj (by decide), hf]
  have s4 : h4 619 x = 1 := by rw [k4, hup_at]
  unfold spR at q0 q1
  -- a fault in the first number
  have tail1 : ∀ {h5 : Hp} {f y : Int}, f ≠ 0 → (nuR B n (bl B n (p + 1))).1 = f → (nuR B n (bl B n (p + 1))).2.1 = y → h5 = hup (hup h4 608 21 f) 608 22 y → ∀ h8 : Hp, h8 = hup h5 620 x 0 → Good g (d + 4) i10_blanks [LR 10 608] S0 h8 S0 (retV (fun h9 => Good g (d + 4) i10_take [LR 10 608, LI 126] S0 h9 S0 (retV (fun h11 => Good g (d + 4) i10_blanks [LR 10 608] S0 h11 S0 (retV (fun h13 => Good g (d + 4) i10_fine [LR 10 608] S0 h13 S0 (retI (fun r17 h15 => ((r17 = 0 → ∀ h19 : Hp, h19 = hup h15 621 x 0 → Good g (d + 4) i10_blanks [LR 10 608] S0 h19 S0 (retV (fun h20 => Good g (d + 4) i10_take [LR 10 608, LI 93] S0 h20 S0 (retV (fun h22 => Q h22))))) ∧ (¬ r17 = 0 → Good g (d + 4) i10_number [LR 10 608, LI 0] S0 h15 S0 (retL (fun r26 h24 => ∀ h27 : Hp, h27 = hup h24 621 x r26 → Good g (d + 4) i10_blanks [LR 10 608] S0 h27 S0 (retV (fun h28 => Good g (d + 4) i10_take [LR 10 608, LI 93] S0 h28 S0 (retV (fun h30 => Q h30)))))))))))))))) := by
    intro h5 f y hfz en1 en2 k5 h8 k8
    rw [if_pos (by rw [en1]; exact hfz), en1, en2] at q1
    have F8 := ((F4.f (j := 21) rfl (by decide)).f k5 (by decide)).r k8 (by decide)
    have a8 : h8 608 20 = bl B n (p + 1) := by rw [k8, hup_ne (by decide), k5, hup_nj (by decide), hup_nj (by decide), p4]
    have b8 : h8 608 21 = f := by rw [k8, hup_ne (by decide), k5, hup_nj (by decide), hup_at]
    have c8 : h8 608 22 = y := by rw [k8, hup_ne (by decide), k5, hup_at]
    refine m_blanks (F8.mx mx) a8 (by omega) (fun h9 k9 => m_take_f (by rw [k9, hup_nj (by decide), b8]; exact hfz) ?_)
    rw [bl_bl] at k9
    refine m_blanks (p := bl B n (p + 1)) ((F8.f k9 (by decide)).mx mx) (by rw [k9, hup_at]) (by omega) (fun h13 k13 => m_fine ?_)
    rw [bl_bl] at k13
    have b13 : h13 608 21 = f := by rw [k13, hup_nj (by decide), k9, hup_nj (by decide), b8]
    rw [b13]
    refine bz (fun _ h19 k19 => ?_) (fun z => absurd z hfz)
    refine t2 hfz (q1 hfz) (((F8.f k9 (by decide)).f k13 (by decide)).r k19 (by decide)) (by rw [k19, hup_ne (by decide), b13]) (by rw [k19, hup_ne (by decide), k13, hup_nj (by decide), k9, hup_nj (by decide), c8]) (by rw [k19, hup_ne (by decide), k13, hup_at]; omega) (by rw [k19, hup_ne (by decide), k13, hup_at]; omega)
  have k3 : (nuR B n (bl B n (p + 1))).1 = 3 → (nuR B n (bl B n (p + 1))).2.1 = bl B n (p + 1) := by
    unfold nuR
    split
    · exact fun _ => rfl
    · split
      · exact fun z => absurd z (by simp)
      · exact fun z => absurd z (by simp)
  refine m_number (F4.mx mx) p4 f4 (by omega) b1' (fun c h5 k5 => tail1 (by decide) c (k3 c) k5) (fun _ z => absurd rfl z) (fun c _ h5 k5 => tail1 (by decide) c rfl k5) (fun c _ h5 k5 h8 k8 => ?_)
  rw [if_neg (fun z => z c)] at q0 q1
  have F8 := (F4.f k5 (by decide)).r k8 (by decide)
  have a8 : h8 608 20 = (nuR B n (bl B n (p + 1))).2.1 := by rw [k8, hup_ne (by decide), k5, hup_at]
  have f8 : h8 608 21 = 0 := by rw [k8, hup_ne (by decide), k5, hup_nj (by decide), f4]
  have b2 := bl_p (B := B) (n := n) (p := (nuR B n (bl B n (p + 1))).2.1)
  have b2' := b2.2.1 r1.2.1
  have r1' := r1.1
  refine m_blanks (F8.mx mx) a8 r1' (fun h9 k9 => ?_)
  have F9 := F8.f k9 (by decide)
  refine m_take (p := bl B n (nuR B n (bl B n (p + 1))).2.1) (F9.mx mx) (by rw [k9, hup_at]) (by omega) (by omega) (by rw [k9, hup_nj (by decide), f8]) (fun c2 h11 k11 => ?_) (fun c2 h11 k11 => ?_)
  · rw [if_neg (fun z => z c2)] at q0 q1
    have c3 := byt_in (B := B) (n := n) (i := bl B n (nuR B n (bl B n (p + 1))).2.1) (by omega)
    have F11 := F9.f k11 (by decide)
    have b3 := bl_p (B := B) (n := n) (p := bl B n (nuR B n (bl B n (p + 1))).2.1 + 1)
    have b3' := b3.2.1 (by omega)
    have r2 := nuR_ok (B := B) (n := n) (p := bl B n (bl B n (nuR B n (bl B n (p + 1))).2.1 + 1)) (by omega) b3'
    refine m_blanks (p := bl B n (nuR B n (bl B n (p + 1))).2.1 + 1) (F11.mx mx) (by rw [k11, hup_at]) (by omega) (fun h13 k13 => m_fine ?_)
    have F13 := F11.f k13 (by decide)
    have f13 : h13 608 21 = 0 := by rw [k13, hup_nj (by decide), k11, hup_nj (by decide), k9, hup_nj (by decide), f8]
    have p13 : h13 608 20 = bl B n (bl B n (nuR B n (bl B n (p + 1))).2.1 + 1) := by rw [k13, hup_at]
    have s13 : h13 619 x = 1 ∧ h13 620 x = (nuR B n (bl B n (p + 1))).2.2 := by
      refine ⟨?_, ?_⟩
      · rw [k13, hup_ne (by decide), k11, hup_ne (by decide), k9, hup_ne (by decide), k8, hup_ne (by decide), k5, hup_ne (by decide), s4]
      · rw [k13, hup_ne (by decide), k11, hup_ne (by decide), k9, hup_ne (by decide), k8, hup_at]
    rw [f13]
    refine bz (fun z => absurd rfl z) (fun _ => ?_)
    have k3' : (nuR B n (bl B n (bl B n (nuR B n (bl B n (p + 1))).2.1 + 1))).1 = 3 → (nuR B n (bl B n (bl B n (nuR B n (bl B n (p + 1))).2.1 + 1))).2.1 = bl B n (bl B n (nuR B n (bl B n (p + 1))).2.1 + 1) := by
      generalize bl B n (bl B n (nuR B n (bl B n (p + 1))).2.1 + 1) = y
      unfold nuR
      split
      · exact fun _ => rfl
      · split
        · exact fun z => absurd z (by simp)
        · exact fun z => absurd z (by simp)
    have bad : ∀ {h24 : Hp} {f y : Int}, f ≠ 0 → (nuR B n (bl B n (bl B n (nuR B n (bl B n (p + 1))).2.1 + 1))).1 = f → (nuR B n (bl B n (bl B n (nuR B n (bl B n (p + 1))).2.1 + 1))).2.1 = y → h24 = hup (hup h13 608 21 f) 608 22 y → ∀ h27 : Hp, h27 = hup h24 621 x 0 → Good g (d + 4) i10_blanks [LR 10 608] S0 h27 S0 (retV (fun h28 => Good g (d + 4) i10_take [LR 10 608, LI 93] S0 h28 S0 (retV (fun h30 => Q h30)))) := by
      intro h24 f y hfz en1 en2 k24 h27 k27
      rw [if_pos (by rw [en1]; exact hfz), en1, en2] at q1
      refine t2 hfz (q1 hfz) (((F13.f (j := 21) rfl (by decide)).f k24 (by decide)).r k27 (by decide)) (by rw [k27, hup_ne (by decide), k24, hup_nj (by decide), hup_at]) (by rw [k27, hup_ne (by decide), k24, hup_at]) ?_ ?_
      · rw [k27, hup_ne (by decide), k24, hup_nj (by decide), hup_nj (by decide), p13]; omega
      · rw [k27, hup_ne (by decide), k24, hup_nj (by decide), hup_nj (by decide), p13]; omega
    refine m_number (F13.mx mx) p13 f13 (by omega) b3' (fun c4 h24 k24 => bad (by decide) c4 (k3' c4) k24) (fun _ z => absurd rfl z) (fun c4 _ h24 k24 => bad (by decide) c4 rfl k24) (fun c4 _ h24 k24 h27 k27 => ?_)
    rw [if_neg (fun z => z c4)] at q0 q1
    have F27 := (F13.f k24 (by decide)).r k27 (by decide)
    have a27 : h27 608 20 = (nuR B n (bl B n (bl B n (nuR B n (bl B n (p + 1))).2.1 + 1))).2.1 := by rw [k27, hup_ne (by decide), k24, hup_at]
    have f27 : h27 608 21 = 0 := by rw [k27, hup_ne (by decide), k24, hup_nj (by decide), f13]
    have b4 := bl_p (B := B) (n := n) (p := (nuR B n (bl B n (bl B n (nuR B n (bl B n (p + 1))).2.1 + 1))).2.1)
    have b4' := b4.2.1 r2.2.1
    have r2' := r2.1
    refine m_blanks (F27.mx mx) a27 r2.1 (fun h28 k28 => ?_)
    have F28 := F27.f k28 (by decide)
    have f28 : h28 608 21 = 0 := by rw [k28, hup_nj (by decide), f27]
    refine m_take (p := bl B n (nuR B n (bl B n (bl B n (nuR B n (bl B n (p + 1))).2.1 + 1))).2.1) (F28.mx mx) (by rw [k28, hup_at]) (by omega) (by omega) f28 (fun c5 h30 k30 => ?_) (fun c5 h30 k30 => ?_)
    · rw [if_neg (fun z => z c5)] at q0
      have c6 := byt_in (B := B) (n := n) (i := bl B n (nuR B n (bl B n (bl B n (nuR B n (bl B n (p + 1))).2.1 + 1))).2.1) (by omega)
      refine q0 rfl h30 _ (F28.f k30 (by decide)) (by rw [k30, hup_at]) (by omega) (by omega) rfl (by rw [k30, hup_nj (by decide), f28]) ?_ ?_ ?_
      · rw [k30, hup_ne (by decide), k28, hup_ne (by decide), k27, hup_ne (by decide), k24, hup_ne (by decide), s13.1]
      · rw [k30, hup_ne (by decide), k28, hup_ne (by decide), k27, hup_ne (by decide), k24, hup_ne (by decide), s13.2]
      · rw [k30, hup_ne (by decide), k28, hup_ne (by decide), k27, hup_at]
    · rw [if_pos c5] at q1
      refine q1 (by simp) h30 ((F28.f (j := 21) rfl (by decide)).f k30 (by decide)) (by rw [k30, hup_nj (by decide), hup_at]) (by rw [k30, hup_at]) ?_ ?_
      · rw [k30, hup_nj (by decide), hup_nj (by decide), k28, hup_at]; omega
      · rw [k30, hup_nj (by decide), hup_nj (by decide), k28, hup_at]; omega
  · -- no ~
    rw [if_pos c2] at q1
    have F11 := (F9.f (j := 21) rfl (by decide)).f k11 (by decide)
    have f11 : h11 608 21 = 1 := by rw [k11, hup_nj (by decide), hup_at]
    have p11 : h11 608 20 = bl B n (nuR B n (bl B n (p + 1))).2.1 := by rw [k11, hup_nj (by decide), hup_nj (by decide), k9, hup_at]
    refine m_blanks (F11.mx mx) p11 (by omega) (fun h13 k13 => m_fine ?_)
    rw [bl_bl] at k13
    have f13 : h13 608 21 = 1 := by rw [k13, hup_nj (by decide), f11]
    rw [f13]
    refine bz (fun _ h19 k19 => ?_) (fun z => absurd z (by decide))
    refine t2 (by simp) (q1 (by simp)) ((F11.f k13 (by decide)).r k19 (by decide)) (by rw [k19, hup_ne (by decide), f13]) (by rw [k19, hup_ne (by decide), k13, hup_nj (by decide), k11, hup_at]) ?_ ?_
    · rw [k19, hup_ne (by decide), k13, hup_at]; omega
    · rw [k19, hup_ne (by decide), k13, hup_at]; omega
end
