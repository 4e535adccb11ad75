/-! SIZES AND WHAT A NODE IS A PART OF -/
/-- v is the last of lo .. m - 1 that m lies below, or -1 -/
def isP (L : NL) (lo m v : Int) : Prop := (v = -1 ∧ ∀ k : Int, lo ≤ k → k < m → k + sz L k ≤ m) ∨ (lo ≤ v ∧ v < m ∧ m < v + sz L v ∧ ∀ k : Int, v < k → k < m → k + sz L k ≤ m)
theorem isP_u {L : NL} {m v w : Int} (h1 : isP L 0 m v) (h2 : isP L 0 m w) : v = w := by
  rcases h1 with ⟨a1, a2⟩ | ⟨a1, a2, a3, a4⟩
  · rcases h2 with ⟨b1, b2⟩ | ⟨b1, b2, b3, b4⟩
    · omega
    · have := a2 w b1 b2
      omega
  · rcases h2 with ⟨b1, b2⟩ | ⟨b1, b2, b3, b4⟩
    · have := b2 v a1 a2
      omega
    · rcases Int.lt_trichotomy v w with c | c | c
      · have := a4 w c b2
        omega
      · exact c
      · have := b4 v c a2
        omega
theorem isP_kid {L : NL} {y : Int} (y0 : 0 ≤ y) (y1 : y < ln L) {j : Nat} (hj : kd L y j < y + sz L y) : isP L y (kd L y j) y := Or.inr ⟨by omega, by have := kd_ge (L := L) (i := y) j; omega, hj, fun k k0 k1 => sz_in y0 y1 j k k0 k1⟩
/-- a node below y that is no part of it lies below a part -/
theorem kid_in {L : NL} {y : Int} (y0 : 0 ≤ y) : ∀ (a : Nat) (i : Int), y < i → i < kd L y a → (∃ j : Nat, j < a ∧ i = kd L y j) ∨ ∃ k : Int, y < k ∧ k < i ∧ i < k + sz L k
  | 0, i, h1, h2 => by rw [kd_0] at h2; omega
  | a + 1, i, h1, h2 => by
    by_cases c : i < kd L y a
    · rcases kid_in y0 a i h1 c with ⟨j, hj, e⟩ | z
      · exact Or.inl ⟨j, by omega, e⟩
      · exact Or.inr z
    · by_cases c2 : i = kd L y a
      · exact Or.inl ⟨a, by omega, c2⟩
      · rw [kd_s y0] at h2
        have := kd_ge (L := L) (i := y) a
        exact Or.inr ⟨kd L y a, by omega, by omega, h2⟩
theorem isP_far {L : NL} {y : Int} (y0 : 0 ≤ y) (y1 : y < ln L) {i v : Int} (hi : y < i) (h : isP L (y + 1) i v) (hn : ∀ j : Nat, j < (nd L y 7).toNat → i ≠ kd L y j) : isP L y i v := by
  rcases h with ⟨a1, a2⟩ | ⟨a1, a2, a3, a4⟩
  · refine Or.inl ⟨a1, fun k k0 k1 => ?_⟩
    by_cases c : k = y
    · subst c
      have e := sz_kd y0 y1
      by_cases c2 : i < k + sz L k
      · rw [← e] at c2
        rcases kid_in y0 _ i hi c2 with ⟨j, hj, ej⟩ | ⟨k', z1, z2, z3⟩
        · exact absurd ej (hn j hj)
        · have := a2 k' (by omega) z2
          omega
      · omega
    · exact a2 k (by omega) k1
  · exact Or.inr ⟨by omega, a2, a3, a4⟩
section
variable {g : Gl} {d : Nat} {h : Hp} {E : Ev} {L : NL} {Q : Hp → Prop}
theorem f_link (ok : okE E) (ce : cE E h) {n c : Int} (nw : NDs g n c) (ap : 10 ≤ n) (c9 : c ≤ 1000) (cn : cN n L h) (lc : ln L ≤ c) (ol : okL E L) (w : wf L 1) (q : ∀ h' : Hp, cS n L h' → (∀ i : Int, 0 ≤ i → i < ln L → isP L 0 i (h' (n + 8) i)) → (∀ a : Int, a ≠ n + 8 → a ≠ n + 9 → h' a = h a) → Q h') : Good g (d + 3) i5_link [LR 5 n, LR 2 5] S0 h S0 (retV Q) := by
  have l0 := ln_nn L
  obtain ⟨n4, a1, a2, a3, a4, a5, a6, a7, a8, a9⟩ := id nw
  have outer : ∀ (m : Nat) (y : Int) (h2 : Hp), y + 1 = m → y < ln L → (∀ a : Int, a ≠ n + 8 → a ≠ n + 9 → h2 a = h a) → (∀ i : Int, y < i → i < ln L → h2 (n + 9) i = sz L i ∧ isP L (y + 1) i (h2 (n + 8) i)) → L0 g (d + 2) m5_link (retV Q) 7 [some (LR 5 n), some (LR 2 5), some (LI y), none, none] h2 := by
    intro m
    induction m with
    | zero =>
      intro y h2 hy yl F R
      refine v5_link_7 n4 ⟨fun _ => q h2 (fun i i0 i1 => (R i (by omega) i1).1) (fun i i0 i1 => ?_) F, fun z => absurd (by omega) z⟩
      have := (R i (by omega) i1).2
      rwa [show y + 1 = 0 by omega] at this
    | succ m ih =>
      intro y h2 hy yl F R
      have y0 : 0 ≤ y := by omega
      have cn2 : cN n L h2 := cn.to (by rw [F n (by omega) (by omega)]) (fun k k0 k1 => F _ (by omega) (by omega))
      have ce2 : cE E h2 := ce.to (F 5 (by omega) (by omega)) (F 6 (by omega) (by omega)) (F 7 (by omega) (by omega)) (F 8 (by omega) (by omega)) (F 9 (by omega) (by omega))
      have o7 := (ol y y0 yl).p7 ok
      refine v5_link_7 n4 ⟨fun z => absurd z (by omega), fun _ => f_partsOfNode ok ce2 nw cn2 lc y0 yl (ol y y0 yl) ?_⟩
      rw [w32_id (by omega) (by omega)]
      have inner : ∀ (m2 j : Nat) (h3 : Hp), j + m2 = (nd L y 7).toNat → (∀ a : Int, a ≠ n + 8 → a ≠ n + 9 → h3 a = h a) → (∀ i : Int, y < i → i < ln L → h3 (n + 9) i = sz L i) → (∀ i : Int, y < i → i < ln L → (∃ j' : Nat, j' < j ∧ i = kd L y j') → h3 (n + 8) i = y) → (∀ i : Int, y < i → i < ln L → ¬ (∃ j' : Nat, j' < j ∧ i = kd L y j') → isP L (y + 1) i (h3 (n + 8) i)) → L0 g (d + 2) m5_link (retV Q) 23 [some (LR 5 n), some (LR 2 5), some (LI y), some (LI (kd L y j)), some (LI (nd L y 7 - j))] h3 := by
        intro m2
        induction m2 with
        | zero =>
          intro j h3 hj F3 S3 P3 N3
          have ej : j = (nd L y 7).toNat := by omega
          have sk := sz_kd y0 yl
          have sl := sz_le y0 yl
          have sp := sz_pos y0 yl
          refine v5_link_23 n4 ⟨fun _ => ⟨y0, by omega, fun h4 k4 => ⟨by omega, fun h5 k5 => ?_⟩⟩, fun z => absurd (by omega) z⟩
          rw [ej, sk, show y + sz L y - y = sz L y by omega, w32_id (by omega) (by omega)] at k4
          rw [w32_id (x := y + -1) (by omega) (by omega)]
          refine ih (y + -1) h5 (by omega) (by omega) (fun a b1 b2 => by rw [k5, hup_r b1, k4, hup_r b2]; exact F3 a b1 b2) (fun i i0 i1 => ?_)
          rw [show y + -1 + 1 = y by omega]
          by_cases ci : i = y
          · subst ci
            refine ⟨by rw [k5, hup_ne (by omega), k4, hup_at], ?_⟩
            rw [k5, hup_at]
            exact Or.inl ⟨rfl, fun k k0 k1 => by omega⟩
          · refine ⟨by rw [k5, hup_ne (by omega), k4, hup_nj ci]; exact S3 i (by omega) i1, ?_⟩
            rw [k5, hup_nj ci, k4, hup_ne (by omega)]
            by_cases z : ∃ j' : Nat, j' < j ∧ i = kd L y j'
            · rw [P3 i (by omega) i1 z]
              obtain ⟨j', hj', e⟩ := z
              rw [e]
              refine isP_kid y0 yl ?_
              rw [← sk]
              have e2 := kd_s (L := L) y0 j'
              have e3 : kd L y (j' + 1) ≤ kd L y (nd L y 7).toNat := by
                have : ∀ b : Nat, kd L y (j' + 1) ≤ kd L y (j' + 1 + b) := by
                  intro b
                  induction b with
                  | zero => exact Int.le_refl _
                  | succ b ihb =>
                    have := kd_s (L := L) y0 (j' + 1 + b)
                    have s0 : 0 ≤ sz L (kd L y (j' + 1 + b)) := by unfold sz; omega
                    rw [show j' + 1 + (b + 1) = j' + 1 + b + 1 by omega]
                    omega
                have t := this ((nd L y 7).toNat - (j' + 1))
                rwa [show j' + 1 + ((nd L y 7).toNat - (j' + 1)) = (nd L y 7).toNat by omega] at t
              have g1 := kd_ge (L := L) (i := y) j'
              have s1 := sz_pos (L := L) (i := kd L y j') (by omega) (by omega)
              omega
            · exact isP_far y0 yl (by omega) (N3 i (by omega) i1 z) (fun j' hj' e => z ⟨j', by omega, e⟩)
        | succ m2 ih2 =>
          intro j h3 hj F3 S3 P3 N3
          have kl := kd_lt w y0 yl (j := j) (by omega)
          have kg := kd_ge (L := L) (i := y) j
          have en : h3 n 9 = ln L := by rw [F3 n (by omega) (by omega)]; exact cn.1
          have sl := sz_le (L := L) (i := kd L y j) (by omega) kl
          have sp := sz_pos (L := L) (i := kd L y j) (by omega) kl
          refine v5_link_23 n4 ⟨fun z => absurd z (by omega), fun _ => ⟨fun z => absurd z (by rw [en]; omega), fun _ => ⟨by omega, by omega, fun h7 k7 => ⟨by omega, ?_⟩⟩⟩⟩
          have e9 : h7 (n + 9) (kd L y j) = sz L (kd L y j) := by rw [k7, hup_ne (by omega)]; exact S3 _ (by omega) kl
          rw [e9, w32_id (x := kd L y j + sz L (kd L y j)) (by omega) (by omega), ← kd_s y0, w32_id (by omega) (by omega), show nd L y 7 - (j : Int) + -1 = nd L y 7 - ((j + 1 : Nat) : Int) by omega]
          refine ih2 (j + 1) h7 (by omega) (fun a b1 b2 => by rw [k7, hup_r b1]; exact F3 a b1 b2) (fun i i0 i1 => by rw [k7, hup_ne (by omega)]; exact S3 i i0 i1) (fun i i0 i1 z => ?_) (fun i i0 i1 z => ?_)
          · by_cases ci : i = kd L y j
            · rw [ci, k7, hup_at]
            · rw [k7, hup_nj ci]
              obtain ⟨j', hj', e⟩ := z
              exact P3 i i0 i1 ⟨j', Classical.byContradiction (fun c => ci (by rw [e, show j' = j by omega])), e⟩
          · have ci : i ≠ kd L y j := fun e => z ⟨j, by omega, e⟩
            rw [k7, hup_nj ci]
            exact N3 i i0 i1 (fun ⟨j', hj', e⟩ => z ⟨j', by omega, e⟩)
      have X := inner (nd L y 7).toNat 0 h2 (by omega) F (fun i i0 i1 => (R i i0 i1).1) (fun i i0 i1 ⟨j', hj', _⟩ => by omega) (fun i i0 i1 _ => (R i i0 i1).2)
      rw [kd_0, show nd L y 7 - ((0 : Nat) : Int) = nd L y 7 by omega] at X
      exact X
  refine g5_link (fun _ => v5_link n4 ?_)
  rw [cn.1, w32_id (by omega) (by omega)]
  exact outer (ln L).toNat (ln L - 1) h (by omega) (by omega) (fun _ _ _ => rfl) (fun i i0 i1 => by omega)
theorem m_findUps (mt : mT L h) (l1 : ln L ≤ 120) (q : ∀ h' : Hp, (∀ i : Int, 0 ≤ i → i < ln L → isP L 0 i (h' 640 i)) → (∀ a : Int, a ≠ 640 → h' a = h a) → Q h') : Good g (d + 1) i10_findUps [LR 10 608] S0 h S0 (retV Q) := by
  have l0 := ln_nn L
  have outer : ∀ (m : Nat) (y : Int) (h2 : Hp), 0 ≤ y → y + m = ln L → (∀ a : Int, a ≠ 640 → h2 a = h a) → (∀ i : Int, 0 ≤ i → i < y → isP L 0 i (h2 640 i)) → L0 g d m10_findUps (retV Q) 2 [some (LR 10 608), some (LI y), none] h2 := by
    intro m
    induction m with
    | zero =>
      intro y h2 y0 hy F R
      have e42 : h2 608 42 = ln L := by rw [F 608 (by decide)]; exact mt.1
      refine v10_findUps_2 ⟨fun _ => q h2 (fun i i0 i1 => R i i0 (by omega)) F, fun z => absurd (by rw [e42]; omega) z⟩
    | succ m ih =>
      intro y h2 y0 hy F R
      have e42 : h2 608 42 = ln L := by rw [F 608 (by decide)]; exact mt.1
      refine v10_findUps_2 ⟨fun z => absurd z (by rw [e42]; omega), fun _ => ⟨y0, by omega, fun h3 k3 => ?_⟩⟩
      have inner : ∀ (m2 : Nat) (x : Int) (h4 : Hp), 0 ≤ x → x + m2 = y → (∀ a : Int, a ≠ 640 → h4 a = h a) → (∀ i : Int, 0 ≤ i → i < y → isP L 0 i (h4 640 i)) → ((h4 640 y = -1 ∧ ∀ k : Int, 0 ≤ k → k < x → k + sz L k ≤ y) ∨ (0 ≤ h4 640 y ∧ h4 640 y < x ∧ y < h4 640 y + sz L (h4 640 y) ∧ ∀ k : Int, h4 640 y < k → k < x → k + sz L k ≤ y)) → L0 g d m10_findUps (retV Q) 19 [some (LR 10 608), some (LI y), some (LI x)] h4 := by
        intro m2
        induction m2 with
        | zero =>
          intro x h4 x0 hx F4 R4 I4
          refine v10_findUps_19 ⟨fun _ => ?_, fun z => absurd (by omega) z⟩
          rw [w32_id (by omega) (by omega)]
          refine ih (y + 1) h4 (by omega) (by omega) F4 (fun i i0 i1 => ?_)
          by_cases ci : i = y
          · subst ci
            rw [show x = i by omega] at I4
            exact I4
          · exact R4 i i0 (by omega)
        | succ m2 ih2 =>
          intro x h4 x0 hx F4 R4 I4
          have ex : h4 639 x = x + sz L x := by rw [F4 639 (by decide)]; exact (mt.2 x x0 (by omega)).2.2
          refine v10_findUps_19 ⟨fun z => absurd z (by omega), fun _ => ⟨x0, by omega, fun c1 => ⟨y0, by omega, fun h5 k5 => ?_⟩, fun c1 => ⟨y0, by omega, fun h5 k5 => ?_⟩⟩⟩
          · rw [hup_self rfl] at k5
            subst k5
            rw [w32_id (by omega) (by omega)]
            rw [ex] at c1
            refine ih2 (x + 1) h5 (by omega) (by omega) F4 R4 ?_
            rcases I4 with ⟨b1, b2⟩ | ⟨b1, b2, b3, b4⟩
            · refine Or.inl ⟨b1, fun k z0 z1 => ?_⟩
              by_cases ck : k = x
              · subst ck; exact c1
              · exact b2 k z0 (by omega)
            · refine Or.inr ⟨b1, by omega, b3, fun k z0 z1 => ?_⟩
              by_cases ck : k = x
              · subst ck; exact c1
              · exact b4 k z0 (by omega)
          · rw [w32_id (by omega) (by omega)]
            rw [ex] at c1
            refine ih2 (x + 1) h5 (by omega) (by omega) (fun a ha => by rw [k5, hup_r ha]; exact F4 a ha) (fun i i0 i1 => by rw [k5, hup_nj (by omega)]; exact R4 i i0 i1) ?_
            rw [k5, hup_at]
            exact Or.inr ⟨x0, by omega, by omega, fun k z0 z1 => by omega⟩
      exact inner y.toNat 0 h3 (by decide) (by omega) (fun a ha => by rw [k3, hup_r ha]; exact F a ha) (fun i i0 i1 => by rw [k3, hup_nj (by omega)]; exact R i i0 i1) (Or.inl ⟨by rw [k3, hup_at], fun k z0 z1 => by omega⟩)
  exact g10_findUps (v10_findUps (outer (ln L).toNat 0 h (by decide) (by omega) (fun _ _ => rfl) (fun i i0 i1 => by omega)))
end
