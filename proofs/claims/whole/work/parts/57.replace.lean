/-! NODES PUT IN PLACE OF OTHERS -/
/-- a row with the nodes from f on, g many, replaced -/
def rpl (L D : NL) (f g : Int) : NL := L.take f.toNat ++ D ++ L.drop (f.toNat + g.toNat)
theorem ln_rpl {L D : NL} {f g : Int} (f0 : 0 ≤ f) (g0 : 0 ≤ g) (h : f + g ≤ ln L) : ln (rpl L D f g) = ln L - g + ln D := by
  unfold ln at *
  unfold rpl
  rw [List.length_append, List.length_append, List.length_take, List.length_drop]
  omega
theorem nd_rpl {L D : NL} {f g i : Int} (f0 : 0 ≤ f) (g0 : 0 ≤ g) (h : f + g ≤ ln L) (i0 : 0 ≤ i) : nd (rpl L D f g) i = if i < f then nd L i else if i < f + ln D then nd D (i - f) else nd L (i - ln D + g) := by
  unfold ln at *
  unfold rpl nd
  have ht : (L.take f.toNat).length = f.toNat := by rw [List.length_take]; omega
  rw [List.append_assoc]
  simp only [List.getD_eq_getElem?_getD]
  by_cases c : i < f
  · rw [if_pos c, List.getElem?_append_left (by omega), List.getElem?_take_of_lt (by omega)]
  · rw [if_neg c, List.getElem?_append_right (by omega), ht]
    by_cases c2 : i < f + (D.length : Nat)
    · rw [if_pos c2, List.getElem?_append_left (by omega), show i.toNat - f.toNat = (i - f).toNat by omega]
    · rw [if_neg c2, List.getElem?_append_right (by omega), List.getElem?_drop, show f.toNat + g.toNat + (i.toNat - f.toNat - D.length) = (i - (D.length : Nat) + g).toNat by omega]
theorem cN_k1 {n : Int} {L : NL} {h : Hp} : cN n L h ↔ h n 9 = ln L ∧ ∀ k : Int, 1 ≤ k → k ≤ 7 → ∀ i : Int, 0 ≤ i → i < ln L → h (n + k) i = nd L i (k - 1).toNat := by
  rw [cN_k]
  constructor
  · intro H
    refine ⟨H.1, fun k k0 k1 i i0 i1 => ?_⟩
    have := H.2 (k - 1).toNat (by omega) i i0 i1
    rwa [show n + 1 + (((k - 1).toNat : Nat) : Int) = n + k by omega] at this
  · intro H
    refine ⟨H.1, fun k hk i i0 i1 => ?_⟩
    have := H.2 (k + 1) (by omega) (by omega) i i0 i1
    rwa [show n + ((k : Int) + 1) = n + 1 + k by omega, show ((k : Int) + 1 - 1).toNat = k by omega] at this
/-- one put -/
def putR (h h' : Hp) (n t m i : Int) : Prop := (∀ a : Int, ¬ (n + 1 ≤ a ∧ a ≤ n + 7) → h' a = h a) ∧ ∀ k : Int, 1 ≤ k → k ≤ 7 → ∀ j : Int, h' (n + k) j = if j = t then h (m + k) i else h (n + k) j
section
variable {g : Gl} {d : Nat} {h : Hp} {Q : Hp → Prop}
theorem f_put {n c t m c2 i : Int} (nw : NDs g n c) (nw2 : NDs g m c2) (ap : n = m ∨ n + 7 ≤ m ∨ m + 7 ≤ n) (t0 : 0 ≤ t) (t1 : t < c) (i0 : 0 ≤ i) (i1 : i < c2) (q : ∀ h' : Hp, putR h h' n t m i → Q h') : Good g (d + 1) i5_put [LR 5 n, LI t, LR 5 m, LI i] S0 h S0 (retV Q) := by
  obtain ⟨n4, a1, a2, a3, a4, a5, a6, a7, a8, a9⟩ := nw
  obtain ⟨m4, b1, b2, b3, b4, b5, b6, b7, b8, b9⟩ := nw2
  refine g5_put (fun _ _ _ _ => v5_put n4 m4 ?_)
  rw [a1, a2, a3, a4, a5, a6, a7, b1, b2, b3, b4, b5, b6, b7]
  refine ⟨i0, i1, t0, t1, fun h1 e1 => ⟨i1, t1, fun h2 e2 => ⟨i1, t1, fun h3 e3 => ⟨i1, t1, fun h4 e4 => ⟨i1, fun _ => ⟨t1, fun h5 e5 => ⟨i1, t1, fun h6 e6 => ⟨i1, t1, fun h7 e7 => ?_⟩⟩⟩⟩⟩⟩⟩⟩
  have x2 : h1 (m + 2) i = h (m + 2) i := by rw [e1, hup_ne (by omega)]
  have x3 : h2 (m + 3) i = h (m + 3) i := by rw [e2, hup_ne (by omega), e1, hup_ne (by omega)]
  have x4 : h3 (m + 4) i = h (m + 4) i := by rw [e3, hup_ne (by omega), e2, hup_ne (by omega), e1, hup_ne (by omega)]
  have x5 : h4 (m + 5) i = h (m + 5) i := by rw [e4, hup_ne (by omega), e3, hup_ne (by omega), e2, hup_ne (by omega), e1, hup_ne (by omega)]
  have x6 : h5 (m + 6) i = h (m + 6) i := by rw [e5, hup_ne (by omega), e4, hup_ne (by omega), e3, hup_ne (by omega), e2, hup_ne (by omega), e1, hup_ne (by omega)]
  have x7 : h6 (m + 7) i = h (m + 7) i := by rw [e6, hup_ne (by omega), e5, hup_ne (by omega), e4, hup_ne (by omega), e3, hup_ne (by omega), e2, hup_ne (by omega), e1, hup_ne (by omega)]
  rw [x7] at e7
  rw [x6] at e6
  rw [x5] at e5
  rw [x4] at e4
  rw [x3] at e3
  rw [x2] at e2
  refine q h7 ⟨fun a ha => ?_, fun k k0 k1 j => ?_⟩
  · rw [e7, hup_r (by omega), e6, hup_r (by omega), e5, hup_r (by omega), e4, hup_r (by omega), e3, hup_r (by omega), e2, hup_r (by omega), e1, hup_r (by omega)]
  · have kk : k = 1 ∨ k = 2 ∨ k = 3 ∨ k = 4 ∨ k = 5 ∨ k = 6 ∨ k = 7 := by omega
    have un : ∀ (a v : Int) (H : Hp), hup H a t v a j = if j = t then v else H a j := fun a v H => by
      unfold hup
      by_cases c : j = t
      · rw [if_pos ⟨rfl, c⟩, if_pos c]
      · rw [if_neg (fun z => c z.2), if_neg c]
    rcases kk with rfl | rfl | rfl | rfl | rfl | rfl | rfl
    · rw [e7, hup_ne (by omega), e6, hup_ne (by omega), e5, hup_ne (by omega), e4, hup_ne (by omega), e3, hup_ne (by omega), e2, hup_ne (by omega), e1, un]
    · rw [e7, hup_ne (by omega), e6, hup_ne (by omega), e5, hup_ne (by omega), e4, hup_ne (by omega), e3, hup_ne (by omega), e2, un, e1, hup_ne (by omega)]
    · rw [e7, hup_ne (by omega), e6, hup_ne (by omega), e5, hup_ne (by omega), e4, hup_ne (by omega), e3, un, e2, hup_ne (by omega), e1, hup_ne (by omega)]
    · rw [e7, hup_ne (by omega), e6, hup_ne (by omega), e5, hup_ne (by omega), e4, un, e3, hup_ne (by omega), e2, hup_ne (by omega), e1, hup_ne (by omega)]
    · rw [e7, hup_ne (by omega), e6, hup_ne (by omega), e5, un, e4, hup_ne (by omega), e3, hup_ne (by omega), e2, hup_ne (by omega), e1, hup_ne (by omega)]
    · rw [e7, hup_ne (by omega), e6, un, e5, hup_ne (by omega), e4, hup_ne (by omega), e3, hup_ne (by omega), e2, hup_ne (by omega), e1, hup_ne (by omega)]
    · rw [e7, un, e6, hup_ne (by omega), e5, hup_ne (by omega), e4, hup_ne (by omega), e3, hup_ne (by omega), e2, hup_ne (by omega), e1, hup_ne (by omega)]
/-- rows of the nodes at n hold what F says; all else as in h -/
def rwF (h h' : Hp) (n : Int) (F : Int → Int → Int) : Prop := (∀ a : Int, ¬ (n + 1 ≤ a ∧ a ≤ n + 7) → h' a = h a) ∧ ∀ k : Int, 1 ≤ k → k ≤ 7 → ∀ j : Int, h' (n + k) j = F k j
theorem f_replace_3 {n c : Int} {D : NL} (nw : NDs g n c) (c9 : c ≤ 1000) (ap : 31 ≤ n ∨ n + 7 < 24) (ld : ln D ≤ 120) (cd : cN 24 D h) {f sh : Int} (f0 : 0 ≤ f) (fd : f + ln D ≤ c) {K : Int} (hK : h n 9 = K) (k0 : 0 ≤ K) (k1 : K ≤ c) (s0 : -1000 ≤ sh) (s1 : sh ≤ 1000) {F : Int → Int → Int} (q : ∀ h' : Hp, rwF h h' n (fun k j => if f ≤ j ∧ j < f + ln D then nd D (j - f) (k - 1).toNat else F k j) → Q (hup h' n 9 (K + sh))) : ∀ (m : Nat) (y : Int) (h2 : Hp), 0 ≤ y → y + m = ln D → rwF h h2 n (fun k j => if f ≤ j ∧ j < f + y then nd D (j - f) (k - 1).toNat else F k j) → L0 g (d + 1) m5_replace (retV Q) 121 [some (LR 5 n), some (LI f), none, some (LR 5 24), none, some (LI sh), some (LI y)] h2
  | 0, y, h2, y0, hy, R => by
    refine v5_replace_121 nw.1 ?_
    have e24 : h2 24 9 = ln D := by rw [R.1 24 (by omega)]; exact cd.1
    have en : h2 n 9 = K := by rw [R.1 n (by omega)]; exact hK
    rw [e24, en, w32_id (by omega) (by omega)]
    refine ⟨fun _ h3 e3 => ?_, fun z => absurd (by omega) z⟩
    rw [e3]
    rw [show y = ln D by omega] at R
    exact q h2 R
  | m + 1, y, h2, y0, hy, R => by
    refine v5_replace_121 nw.1 ?_
    have e24 : h2 24 9 = ln D := by rw [R.1 24 (by omega)]; exact cd.1
    rw [e24, w32_id (x := f + y) (by omega) (by omega), w32_id (x := y + 1) (by omega) (by omega)]
    refine ⟨fun z => absurd z (by omega), fun _ => f_put nw NDs.draft (by omega) (by omega) (by omega) (by omega) (by omega) (fun h3 P => ?_)⟩
    refine f_replace_3 nw c9 ap ld cd f0 fd hK k0 k1 s0 s1 q m (y + 1) h3 (by omega) (by omega) ⟨fun a ha => by rw [P.1 a ha]; exact R.1 a ha, fun k a0 a1 j => ?_⟩
    rw [P.2 k a0 a1 j, R.2 k a0 a1 j]
    dsimp only
    by_cases cj : j = f + y
    · rw [if_pos cj, if_pos (by omega), R.1 (24 + k) (by omega), (cN_k1.mp cd).2 k a0 a1 y (by omega) (by omega), cj, show f + y - f = y by omega]
    · rw [if_neg cj]
      by_cases c2 : f ≤ j ∧ j < f + y
      · rw [if_pos c2, if_pos (by omega)]
      · rw [if_neg c2, if_neg (by omega)]
theorem f_replace {n c : Int} {L D : NL} (nw : NDs g n c) (c9 : c ≤ 1000) (ap : 31 ≤ n ∨ n + 7 < 24) (ld : ln D ≤ 120) (cn : cN n L h) (cd : cN 24 D h) {f k : Int} (f0 : 0 ≤ f) (k0 : 0 ≤ k) (fk : f + k ≤ ln L) (lc : ln L ≤ c) (lr : ln L - k + ln D ≤ c) (q : ∀ h' : Hp, cN n (rpl L D f k) h' → (∀ a : Int, ¬ (n ≤ a ∧ a ≤ n + 7) → h' a = h a) → (∀ j : Int, j ≠ 9 → h' n j = h n j) → Q h') : Good g (d + 2) i5_replace [LR 5 n, LI f, LI k, LR 5 24] S0 h S0 (retV Q) := by
  have l0 := ln_nn L
  have d0 := ln_nn D
  have q' : ∀ h' : Hp, (∀ a : Int, ¬ (n + 1 ≤ a ∧ a ≤ n + 7) → h' a = h a) → (∀ a : Int, 1 ≤ a → a ≤ 7 → ∀ j : Int, 0 ≤ j → j < ln L - k + ln D → h' (n + a) j = if f ≤ j ∧ j < f + ln D then nd D (j - f) (a - 1).toNat else if j < f then h (n + a) j else h (n + a) (j - ln D + k)) → Q (hup h' n 9 (ln L + (ln D - k))) := by
    intro h' R1 R2
    refine q _ (cN_k1.mpr ⟨by rw [hup_at, ln_rpl f0 k0 fk]; omega, fun a a0 a1 i i0 i1 => ?_⟩) (fun a ha => by rw [hup_r (by omega)]; exact R1 a (by omega)) (fun j hj => by rw [hup_nj hj, R1 n (by omega)])
    rw [ln_rpl f0 k0 fk] at i1
    have e1 := R2 a a0 a1 i i0 i1
    have e2 := nd_rpl (D := D) f0 k0 fk i0
    rw [hup_ne (by omega), e1, e2]
    have H := (cN_k1.mp cn).2 a a0 a1
    by_cases c1 : i < f
    · rw [if_neg (fun z => by omega), if_pos c1, if_pos c1]
      exact H i i0 (by omega)
    · by_cases c2 : i < f + ln D
      · rw [if_pos ⟨by omega, c2⟩, if_neg c1, if_pos c2]
      · rw [if_neg (fun z => by omega), if_neg c1, if_neg c1, if_neg c2]
        exact H _ (by omega) (by omega)
  have e24 : h 24 9 = ln D := cd.1
  refine g5_replace (fun _ _ _ => v5_replace nw.1 ?_)
  rw [cn.1, e24, nw.2.1, w32_id (x := f + k) (by omega) (by omega), w32_id (x := ln D - k) (by omega) (by omega), w32_id (x := ln L + (ln D - k)) (by omega) (by omega), w32_id (x := ln L - 1) (by omega) (by omega)]
  refine ⟨fun z => absurd z (by omega), fun _ => ⟨fun z => absurd z (by omega), fun _ => ⟨fun z => absurd z (by omega), fun _ => ⟨fun _ => ⟨fun c1 => ?_, fun c1 => ?_⟩, fun z => absurd (by omega) z⟩⟩⟩⟩
  · -- not longer: upwards
    have up : ∀ (m : Nat) (y : Int) (h2 : Hp), f + k ≤ y → y + m = ln L → rwF h h2 n (fun a j => if f + ln D ≤ j ∧ j < y + (ln D - k) then h (n + a) (j - ln D + k) else h (n + a) j) → L0 g (d + 1) m5_replace (retV Q) 91 [some (LR 5 n), some (LI f), none, some (LR 5 24), none, some (LI (ln D - k)), some (LI y)] h2 := by
      intro m
      induction m with
      | zero =>
        intro y h2 y0 hy R
        have en : h2 n 9 = ln L := by rw [R.1 n (by omega)]; exact cn.1
        refine v5_replace_91 nw.1 ⟨fun _ => ?_, fun z => absurd (by rw [en]; omega) z⟩
        have cd2 : cN 24 D h2 := cd.to (by rw [R.1 24 (by omega)]) (fun a a0 a1 => R.1 _ (by omega))
        refine f_replace_3 (F := fun a j => h2 (n + a) j) nw c9 ap ld cd2 f0 (by omega) en l0 lc (by omega) (by omega) (fun h' R' => q' h' (fun a ha => by rw [R'.1 a ha]; exact R.1 a ha) (fun a a0 a1 j j0 j1 => ?_)) (ln D).toNat 0 h2 (by decide) (by omega) ⟨fun _ _ => rfl, fun a a0 a1 j => ?_⟩
        · rw [R'.2 a a0 a1 j]
          dsimp only
          by_cases z1 : f ≤ j ∧ j < f + ln D
          · rw [if_pos z1, if_pos z1]
          · rw [if_neg z1, if_neg z1, R.2 a a0 a1 j]
            dsimp only
            by_cases z3 : j < f
            · rw [if_pos z3, if_neg (fun z => by omega)]
            · rw [if_neg z3, if_pos ⟨by omega, by omega⟩]
        · dsimp only
          rw [if_neg (by omega)]
      | succ m ih =>
        intro y h2 y0 hy R
        have en : h2 n 9 = ln L := by rw [R.1 n (by omega)]; exact cn.1
        refine v5_replace_91 nw.1 ⟨fun z => absurd z (by rw [en]; omega), fun _ => ?_⟩
        rw [w32_id (x := y + (ln D - k)) (by omega) (by omega), w32_id (x := y + 1) (by omega) (by omega)]
        refine f_put nw nw (Or.inl rfl) (by omega) (by omega) (by omega) (by omega) (fun h3 P => ih (y + 1) h3 (by omega) (by omega) ⟨fun a ha => by rw [P.1 a ha]; exact R.1 a ha, fun a a0 a1 j => ?_⟩)
        rw [P.2 a a0 a1 j, R.2 a a0 a1 j, R.2 a a0 a1 y]
        dsimp only
        by_cases z1 : j = y + (ln D - k)
        · rw [if_pos z1, if_neg (fun z => by omega), if_pos (by omega), show j - ln D + k = y by omega]
        · rw [if_neg z1]
          by_cases z2 : f + ln D ≤ j ∧ j < y + (ln D - k)
          · rw [if_pos z2, if_pos (by omega)]
          · rw [if_neg z2, if_neg (by omega)]
    exact up (ln L - (f + k)).toNat (f + k) h (by omega) (by omega) ⟨fun _ _ => rfl, fun a a0 a1 j => by dsimp only; rw [if_neg (by omega)]⟩
  · -- longer: downwards
    have dn : ∀ (m : Nat) (y : Int) (h2 : Hp), f + k ≤ y + 1 → y + 1 = f + k + m → y < ln L → rwF h h2 n (fun a j => if y + (ln D - k) < j ∧ j < ln L + (ln D - k) then h (n + a) (j - ln D + k) else h (n + a) j) → L0 g (d + 1) m5_replace (retV Q) 59 [some (LR 5 n), some (LI f), none, some (LR 5 24), some (LI (f + k)), some (LI (ln D - k)), some (LI y)] h2 := by
      intro m
      induction m with
      | zero =>
        intro y h2 y0 hy yl R
        have en : h2 n 9 = ln L := by rw [R.1 n (by omega)]; exact cn.1
        refine v5_replace_59 nw.1 ⟨fun _ => ?_, fun z => absurd (by omega) z⟩
        have cd2 : cN 24 D h2 := cd.to (by rw [R.1 24 (by omega)]) (fun a a0 a1 => R.1 _ (by omega))
        refine f_replace_3 (F := fun a j => h2 (n + a) j) nw c9 ap ld cd2 f0 (by omega) en l0 lc (by omega) (by omega) (fun h' R' => q' h' (fun a ha => by rw [R'.1 a ha]; exact R.1 a ha) (fun a a0 a1 j j0 j1 => ?_)) (ln D).toNat 0 h2 (by decide) (by omega) ⟨fun _ _ => rfl, fun a a0 a1 j => ?_⟩
        · rw [R'.2 a a0 a1 j]
          dsimp only
          by_cases z1 : f ≤ j ∧ j < f + ln D
          · rw [if_pos z1, if_pos z1]
          · rw [if_neg z1, if_neg z1, R.2 a a0 a1 j]
            dsimp only
            by_cases z3 : j < f
            · rw [if_pos z3, if_neg (fun z => by omega)]
            · rw [if_neg z3, if_pos ⟨by omega, by omega⟩]
        · dsimp only
          rw [if_neg (by omega)]
      | succ m ih =>
        intro y h2 y0 hy yl R
        refine v5_replace_59 nw.1 ⟨fun z => absurd z (by omega), fun _ => ?_⟩
        rw [w32_id (x := y + (ln D - k)) (by omega) (by omega), w32_id (x := y + -1) (by omega) (by omega)]
        refine f_put nw nw (Or.inl rfl) (by omega) (by omega) (by omega) (by omega) (fun h3 P => ih (y + -1) h3 (by omega) (by omega) (by omega) ⟨fun a ha => by rw [P.1 a ha]; exact R.1 a ha, fun a a0 a1 j => ?_⟩)
        rw [P.2 a a0 a1 j, R.2 a a0 a1 j, R.2 a a0 a1 y]
        dsimp only
        by_cases z1 : j = y + (ln D - k)
        · rw [if_pos z1, if_neg (fun z => by omega), if_pos (by omega), show j - ln D + k = y by omega]
        · rw [if_neg z1]
          by_cases z2 : y + (ln D - k) < j ∧ j < ln L + (ln D - k)
          · rw [if_pos z2, if_pos (by omega)]
          · rw [if_neg z2, if_neg (by omega)]
    exact dn (ln L - (f + k)).toNat (ln L - 1) h (by omega) (by omega) (by omega) ⟨fun _ _ => rfl, fun a a0 a1 j => by dsimp only; rw [if_neg (by omega)]⟩
end
