/-! READING NODES: the class's Nodes, the model's tree -/
def mT (L : NL) (h : Hp) : Prop := h 608 42 = ln L ∧ ∀ i : Int, 0 ≤ i → i < ln L → h 637 i = nd L i 1 ∧ h 638 i = nd L i 5 ∧ h 639 i = i + sz L i
theorem mT.to {L : NL} {h h' : Hp} (H : mT L h) (e0 : h' 608 42 = h 608 42) (e1 : h' 637 = h 637) (e2 : h' 638 = h 638) (e3 : h' 639 = h 639) : mT L h' := by
  unfold mT at *
  rw [e0, e1, e2, e3]
  exact H
theorem ln_nn (L : NL) : 0 ≤ ln L := by unfold ln; omega
section
variable {g : Gl} {d : Nat} {h : Hp} {E : Ev} {L : NL} {Q : Int → Hp → Prop}
theorem f_partOf_l {n c : Int} (nw : NDs g n c) (cn : h n 9 = ln L) (cs : cS n L h) (lc : ln L ≤ c) (lm : c ≤ 1000) {i : Int} (i0 : 0 ≤ i) (i1 : i < ln L) {k : Nat} (q : Q (kd L i k) h) (hk : ∀ j : Nat, j < k → kd L i j < ln L) : ∀ (m j : Nat), j + m = k → k ≤ 100 → L0 g d m5_partOf (retI Q) 7 [some (LR 5 n), none, some (LI k), some (LI (kd L i j)), some (LI j)] h
  | 0, j, hj, _ => v5_partOf_7 nw.1 ⟨fun _ => by rw [show j = k by omega]; exact q, fun c => absurd c (by omega)⟩
  | m + 1, j, hj, hk1 => by
    have h1 := hk j (by omega)
    have h2 := kd_ge (L := L) (i := i) j
    have h3 := sz_le (L := L) (i := kd L i j) (by omega) h1
    refine v5_partOf_7 nw.1 ⟨fun c => absurd c (by omega), fun _ => ⟨fun c => absurd c (by rw [cn]; omega), fun _ => ⟨by omega, by rw [nw.2.2.2.2.2.2.2.2.2]; omega, ?_⟩⟩⟩
    rw [cs _ (by omega) h1, w32_id (x := kd L i j + sz L (kd L i j)) (by have := sz_pos (by omega) h1; omega) (by omega), w32_id (by omega) (by omega), ← kd_s i0]
    exact f_partOf_l nw cn cs lc lm i0 i1 q hk m (j + 1) (by omega) hk1
theorem f_partOf {n c : Int} (nw : NDs g n c) (cn : h n 9 = ln L) (cs : cS n L h) (lc : ln L ≤ c) (lm : c ≤ 1000) {i : Int} (i0 : 0 ≤ i) (i1 : i < ln L) {k : Nat} (hk : ∀ j : Nat, j < k → kd L i j < ln L) (k9 : k ≤ 100) (q : Q (kd L i k) h) : Good g (d + 1) i5_partOf [LR 5 n, LI i, LI k] S0 h S0 (retI Q) := by
  refine g5_partOf (fun _ _ _ => v5_partOf nw.1 ?_)
  rw [w32_id (by omega) (by omega), ← kd_0 (L := L)]
  exact f_partOf_l nw cn cs lc lm i0 i1 q hk k 0 (by omega) k9
theorem f_areAlike_l {n c : Int} (nw : NDs g n c) (cn : cN n L h) (cs : cS n L h) (lc : ln L ≤ c) (lm : c ≤ 1000) {a b : Int} (a0 : 0 ≤ a) (a1 : a < ln L) (b0 : 0 ≤ b) (b1 : b < ln L) (es : sz L a = sz L b) (q : Q (cb (alk L a b)) h) : ∀ (m : Nat) (y : Int), 0 ≤ y → y + m = sz L a → (∀ k : Int, 0 ≤ k → k < y → nd L (a + k) 1 = nd L (b + k) 1 ∧ nd L (a + k) 5 = nd L (b + k) 5) → L0 g d m5_areAlike (retI Q) 42 [some (LR 5 n), some (LI a), some (LI b), some (LI y)] h
  | 0, y, y0, hy, hp => by
    refine v5_areAlike_42 nw.1 ⟨a0, by rw [nw.2.2.2.2.2.2.2.2.2]; omega, ?_⟩
    rw [cs a a0 a1]
    refine ⟨fun _ => ?_, fun c => absurd c (by omega)⟩
    rwa [cb_t ⟨es, fun k k0 k1 => hp k k0 (by omega)⟩] at q
  | m + 1, y, y0, hy, hp => by
    have la := sz_le a0 a1
    have lb := sz_le b0 b1
    refine v5_areAlike_42 nw.1 ⟨a0, by rw [nw.2.2.2.2.2.2.2.2.2]; omega, ?_⟩
    rw [cs a a0 a1, w32_id (x := a + y) (by omega) (by omega), w32_id (x := b + y) (by omega) (by omega), nw.2.2.1, nw.2.2.2.2.2.2.1, (cn.2 (a + y) (by omega) (by omega)).2.1, (cn.2 (b + y) (by omega) (by omega)).2.1, (cn.2 (a + y) (by omega) (by omega)).2.2.2.2.2.1, (cn.2 (b + y) (by omega) (by omega)).2.2.2.2.2.1]
    refine ⟨fun c => absurd c (by omega), fun _ => ⟨by omega, by omega, by omega, by omega, fun c => ?_, fun c => ⟨by omega, by omega, fun c2 => ?_, fun c2 => ?_⟩⟩⟩
    · rwa [cb_f (fun z => c (z.2 y y0 (by omega)).1)] at q
    · rw [w32_id (by omega) (by omega)]
      refine f_areAlike_l nw cn cs lc lm a0 a1 b0 b1 es q m (y + 1) (by omega) (by omega) (fun k k0 k1 => ?_)
      by_cases e : k = y
      · subst e
        exact ⟨c, lc_eq.mp c2⟩
      · exact hp k k0 (by omega)
    · rwa [cb_f (fun z => c2 (lc_eq.mpr (z.2 y y0 (by omega)).2))] at q
theorem alk_refl (L : NL) (a : Int) : alk L a a := ⟨rfl, fun _ _ _ => ⟨rfl, rfl⟩⟩
theorem f_areAlike {n c : Int} (nw : NDs g n c) (cn : cN n L h) (cs : cS n L h) (lc : ln L ≤ c) (lm : c ≤ 1000) {a b : Int} (a0 : 0 ≤ a) (a1 : a < ln L) (b0 : 0 ≤ b) (b1 : b < ln L) (q : Q (cb (alk L a b)) h) : Good g (d + 2) i5_areAlike [LR 5 n, LI a, LI b] S0 h S0 (retI Q) := by
  refine g5_areAlike (fun _ _ _ => v5_areAlike nw.1 ⟨fun _ => ?_, fun c => ?_⟩)
  · refine f_has nw.1 cn.1 (bz (fun c => absurd ⟨a0, a1⟩ c) (fun _ => ?_))
    refine f_has nw.1 cn.1 (bz (fun c => absurd ⟨b0, b1⟩ c) (fun _ => ?_))
    rw [nw.2.2.2.2.2.2.2.2.2, cs a a0 a1, cs b b0 b1]
    refine ⟨a0, by omega, b0, by omega, fun c => ?_, fun c => ?_⟩
    · have := sz_pos a0 a1
      exact f_areAlike_l nw cn cs lc lm a0 a1 b0 b1 c q (sz L a).toNat 0 (by decide) (by omega) (fun k k0 k1 => absurd k1 (by omega))
    · rwa [cb_f (fun z => c z.1)] at q
  · subst c
    rwa [cb_t (alk_refl L a)] at q
theorem f_spanHolds {n c : Int} (nw : NDs g n c) (cn : cN n L h) (lc : ln L ≤ c) {i x : Int} (i0 : 0 ≤ i) (i1 : i < ln L) (q : Q (cb (nd L i 4 = 0 ∨ (nd L i 5 ≤ x ∧ x ≤ nd L i 6))) h) : Good g (d + 1) i5_spanHolds [LR 5 n, LI i, LL x] S0 h S0 (retI Q) := by
  refine g5_spanHolds (fun _ _ _ => v5_spanHolds nw.1 ⟨i0, by rw [nw.2.2.2.2.2.1]; omega, ?_⟩)
  rw [(cn.2 i i0 i1).2.2.2.2.1, (cn.2 i i0 i1).2.2.2.2.2.1, (cn.2 i i0 i1).2.2.2.2.2.2, nw.2.2.2.2.2.2.1, nw.2.2.2.2.2.2.2.1]
  simp only [lc_gt]
  refine fun _ => ⟨fun c => ?_, fun c => ⟨by omega, fun c2 => ?_, fun c2 => ⟨by omega, fun c3 => ?_, fun c3 => ?_⟩⟩⟩
  · rwa [cb_t (by omega)] at q
  · rwa [cb_f (by omega)] at q
  · rwa [cb_f (by omega)] at q
  · rwa [cb_t (by omega)] at q
/-- fitsHole: node t of the nodes T at m, hole p of P at n -/
theorem f_fitsHole (ok : okE E) (ce : cE E h) {P T : NL} {m c n c2 : Int} (nw : NDs g m c) (cn : cN m T h) (lc : ln T ≤ c) (nw2 : NDs g n c2) (cn2 : cN n P h) (lc2 : ln P ≤ c2) {t p : Int} (t0 : 0 ≤ t) (t1 : t < ln T) (p0 : 0 ≤ p) (p1 : p < ln P) (ot : okN E (nd T t)) (op : nd P p 4 = 0 ∨ nd P p 4 = 1) (q : Q (cb (fh E P T p t)) h) : Good g (d + 3) i3_fitsHole [LR 2 5, LR 5 m, LI t, LR 5 n, LI p] S0 h S0 (retI Q) := by
  refine g3_fitsHole (fun _ _ _ _ => v3_fitsHole nw.1 nw2.1 (f_kindOfNode ok ce nw cn lc t0 t1 ot ⟨p0, by rw [nw2.2.2.2.1]; omega, ?_⟩))
  have h9 := ot.p9 ok
  refine f_isBelow ok ce h9.1 h9.2 ?_
  rw [(cn2.2 p p0 p1).2.2.1, (cn2.2 p p0 p1).2.2.2.2.1, nw2.2.2.2.2.2.1, (cn.2 t t0 t1).1, nw.2.1]
  refine bn (fun c => ⟨by omega, fun _ => ⟨fun c2 => ⟨t0, by omega, fun c3 => ?_, fun c3 => ⟨by rw [nw.2.2.2.2.2.2.1]; omega, ?_⟩⟩, fun c2 => ?_⟩⟩) (fun c => ?_)
  · rwa [cb_f (fun z => c3 (z.2 (by omega)).1)] at q
  · rw [(cn.2 t t0 t1).2.2.2.2.2.1]
    refine f_spanHolds nw2 cn2 lc2 p0 p1 (bz (fun c4 => ?_) (fun c4 => ?_))
    · rwa [cb_f (fun z => by have := (z.2 (by omega)).2; omega)] at q
    · rwa [cb_t ⟨c, fun _ => ⟨c3, by omega, by omega⟩⟩] at q
  · rwa [cb_t ⟨c, fun z => absurd z (by omega)⟩] at q
  · rwa [cb_f (fun z => c z.1)] at q
/-! the model -/
theorem m_in {x a b : Int} (q : Q (cb (a ≤ x ∧ x ≤ b)) h) : Good g (d + 1) i10_in [LL x, LL a, LL b] S0 h S0 (retI Q) := by
  refine g10_in (fun _ _ _ => v10_in ?_)
  simp only [lc_lt, lc_gt]
  refine ⟨fun c => ?_, fun c => ⟨fun c2 => ?_, fun c2 => ?_⟩⟩
  · rwa [cb_f (by omega)] at q
  · rwa [cb_f (by omega)] at q
  · rwa [cb_t (by omega)] at q
theorem m_noKind (ok : okE E) (me : mE E h) {x : Int} (q : Q (cb (¬ (0 ≤ x ∧ x < E 0 0))) h) : Good g (d + 2) i10_noKind [LR 10 608, LI x] S0 h S0 (retI Q) := by
  have o1 := ok.1
  have o2 := ok.2.1
  refine g10_noKind (fun _ => v10_noKind (m_in ?_))
  rw [me.1, w32_id (by omega) (by omega)]
  refine bn (fun c => ?_) (fun c => ?_)
  · rwa [cb_f (by omega)] at q
  · rwa [cb_t (by omega)] at q
theorem m_lies_l (ok : okE E) (me : mE E h) {b : Int} : ∀ (n : Nat) (k : Int), k ≤ n → 0 ≤ k → k < E 0 0 → Q (cb (lie E k b)) h → L0 g d m10_lies (retI Q) 2 [some (LR 10 608), none, some (LI b), some (LI k)] h
  | n, k, hn, k0, k1, q => by
    have o2 := ok.2.1
    refine v10_lies_2 ⟨fun c => ?_, fun c => ⟨fun c2 => ?_, fun c2 => ⟨k0, by omega, ?_⟩⟩⟩
    · rwa [cb_t ((lie_s ok k0 k1).mpr (Or.inl c))] at q
    · rwa [cb_f (fun z => by have := (lie_s ok k0 k1).mp z; omega)] at q
    · have hu := ok.2.2.2.2.1 k (by omega) k1
      rw [me.2.2.1 k (by omega) k1]
      match n, hn with
      | 0, hn => omega
      | n + 1, hn =>
        refine m_lies_l ok me n (E 1 k) (by omega) hu.1 (by omega) ?_
        rwa [cb_c (lie_s ok k0 k1), cb_c (show (k = b ∨ 0 < k ∧ lie E (E 1 k) b) ↔ lie E (E 1 k) b from ⟨fun z => z.elim (fun z => absurd z c) (fun z => z.2), fun z => Or.inr ⟨by omega, z⟩⟩)] at q
theorem m_lies (ok : okE E) (me : mE E h) {a b : Int} (h0 : 0 ≤ a) (h1 : a < E 0 0) (q : Q (cb (lie E a b)) h) : Good g (d + 1) i10_lies [LR 10 608, LI a, LI b] S0 h S0 (retI Q) :=
  g10_lies (fun _ _ => v10_lies (m_lies_l ok me a.toNat a (by omega) h0 h1 q))
theorem m_kindOf (ok : okE E) (me : mE E h) (mt : mT L h) (l1 : ln L ≤ 120) {i : Int} (i0 : 0 ≤ i) (i1 : i < ln L) (on : okN E (nd L i)) (q : Q (nd L i 9) h) : Good g (d + 1) i10_kindOf [LR 10 608, LI i] S0 h S0 (retI Q) := by
  have o4 := ok.2.2.2.1
  refine g10_kindOf (fun _ => v10_kindOf ⟨i0, by omega, ?_⟩)
  rw [(mt.2 i i0 i1).1]
  rcases on with o | o | o | o
  · refine ⟨fun c => ⟨by omega, ?_⟩, fun c => absurd o.2.1 c⟩
    rw [(me.2.2.2 _ o.2.1 o.2.2.1).1]
    rwa [o.2.2.2.2.2.2.2.2.2.2] at q
  · refine ⟨fun c => by omega, fun c => ?_⟩
    rwa [o.2.2.2.2.2.2.2.2.2.2] at q
  · refine ⟨fun c => by omega, fun c => ?_⟩
    rwa [o.2.2.2.2.2.2.2.2.2] at q
  · refine ⟨fun c => by omega, fun c => ?_⟩
    rwa [o.2.2.2.2.2.2.2.2.2] at q
theorem m_areAlike_l (mt : mT L h) (l1 : ln L ≤ 120) {a b : Int} (a0 : 0 ≤ a) (a1 : a < ln L) (b0 : 0 ≤ b) (b1 : b < ln L) (q : Q (cb (alk L a b)) h) : ∀ (m : Nat) (y : Int) (s : Prop), 0 ≤ y → y + m = sz L a → (s → sz L a = sz L b) → (s → ∀ k : Int, 0 ≤ k → k < y → nd L (a + k) 1 = nd L (b + k) 1 ∧ nd L (a + k) 5 = nd L (b + k) 5) → (¬ s → ¬ alk L a b) → L0 g d m10_areAlike (retI Q) 28 [some (LR 10 608), some (LI a), some (LI b), some (LI (cb s)), some (LI y)] h
  | 0, y, s, y0, hy, hs, hp, hn => by
    have la := sz_le a0 a1
    refine v10_areAlike_28 ⟨a0, by omega, ?_⟩
    rw [(mt.2 a a0 a1).2.2, w32_id (x := a + y) (by omega) (by omega)]
    refine ⟨fun _ => ⟨cb_01 s, ?_⟩, fun c => absurd c (by omega)⟩
    rwa [cb_c (show alk L a b ↔ s from ⟨fun z => Classical.byContradiction (fun w => hn w z), fun z => ⟨hs z, fun k k0 k1 => hp z k k0 (by omega)⟩⟩)] at q
  | m + 1, y, s, y0, hy, hs, hp, hn => by
    have la := sz_le a0 a1
    have lb := sz_le b0 b1
    refine v10_areAlike_28 ⟨a0, by omega, ?_⟩
    rw [(mt.2 a a0 a1).2.2, w32_id (x := a + y) (by omega) (by omega)]
    refine ⟨fun c => absurd c (by omega), fun _ => bz (fun c => ⟨cb_01 s, ?_⟩) (fun c => ?_)⟩
    · rw [cb_f c]
      rwa [cb_f (hn c)] at q
    · have es := hs c
      rw [w32_id (x := b + y) (by omega) (by omega), (mt.2 (a + y) (by omega) (by omega)).1, (mt.2 (b + y) (by omega) (by omega)).1, (mt.2 (a + y) (by omega) (by omega)).2.1, (mt.2 (b + y) (by omega) (by omega)).2.1, w32_id (x := y + 1) (by omega) (by omega)]
      refine ⟨by omega, by omega, by omega, by omega, fun c2 => ?_, fun c2 => ⟨fun c3 => ?_, fun c3 => ?_⟩⟩
      · rw [← cb_f (p := False) id]
        exact m_areAlike_l mt l1 a0 a1 b0 b1 q m (y + 1) False (by omega) (by omega) (fun z => z.elim) (fun z => z.elim) (fun _ z => c2 (z.2 y y0 (by omega)).1)
      · rw [← cb_f (p := False) id]
        exact m_areAlike_l mt l1 a0 a1 b0 b1 q m (y + 1) False (by omega) (by omega) (fun z => z.elim) (fun z => z.elim) (fun _ z => c3 (lc_eq.mpr (z.2 y y0 (by omega)).2))
      · have := m_areAlike_l mt l1 a0 a1 b0 b1 q m (y + 1) s (by omega) (by omega) hs (fun z k k0 k1 => ?_) hn
        · rwa [cb_t c] at this
        by_cases e : k = y
        · subst e
          exact ⟨c2, lc_eq.mp c3⟩
        · exact hp z k k0 (by omega)
theorem m_areAlike (mt : mT L h) (l1 : ln L ≤ 120) {a b : Int} (a0 : 0 ≤ a) (a1 : a < ln L) (b0 : 0 ≤ b) (b1 : b < ln L) (q : Q (cb (alk L a b)) h) : Good g (d + 1) i10_areAlike [LR 10 608, LI a, LI b] S0 h S0 (retI Q) := by
  have la := sz_le a0 a1
  have lb := sz_le b0 b1
  have pa := sz_pos a0 a1
  have pb := sz_pos b0 b1
  refine g10_areAlike (fun _ _ => v10_areAlike ⟨a0, by omega, b0, by omega, ?_⟩)
  rw [(mt.2 a a0 a1).2.2, (mt.2 b b0 b1).2.2, w32_id (x := a + sz L a - a) (by omega) (by omega), w32_id (x := b + sz L b - b) (by omega) (by omega)]
  refine ⟨fun c => ?_, fun c => ?_⟩
  · have := m_areAlike_l (g := g) (d := d) mt l1 a0 a1 b0 b1 q (sz L a).toNat 0 False (by decide) (by omega) (fun z => z.elim) (fun z => z.elim) (fun _ z => c (by have := z.1; omega))
    rwa [cb_f (p := False) id] at this
  · have := m_areAlike_l (g := g) (d := d) mt l1 a0 a1 b0 b1 q (sz L a).toNat 0 True (by decide) (by omega) (fun _ => by omega) (fun _ k k0 k1 => absurd k1 (by omega)) (fun z => absurd trivial z)
    rwa [cb_t (p := True) trivial] at this
theorem m_noNode (e : h 608 42 = ln L) (l1 : ln L ≤ 120) {x : Int} (q : Q (cb (¬ (0 ≤ x ∧ x < ln L))) h) : Good g (d + 2) i10_noNode [LR 10 608, LI x] S0 h S0 (retI Q) := by
  have := ln_nn L
  refine g10_noNode (fun _ => v10_noNode (m_in ?_))
  rw [e, w32_id (by omega) (by omega)]
  refine bn (fun c => ?_) (fun c => ?_)
  · rwa [cb_f (by omega)] at q
  · rwa [cb_t (by omega)] at q
theorem m_treePart_l (mt : mT L h) (l1 : ln L ≤ 120) {i : Int} (i0 : 0 ≤ i) (i1 : i < ln L) {k : Nat} (q : Q (kd L i k) h) (hk : ∀ j : Nat, j < k → kd L i j < ln L) : ∀ (m j : Nat), j + m = k → k ≤ 100 → L0 g d m10_treePart (retI Q) 7 [some (LR 10 608), none, some (LI k), some (LI (kd L i j)), some (LI j)] h
  | 0, j, hj, _ => v10_treePart_7 ⟨fun _ => by rw [show j = k by omega]; exact q, fun c => absurd c (by omega)⟩
  | m + 1, j, hj, hk1 => by
    have h1 := hk j (by omega)
    have h2 := kd_ge (L := L) (i := i) j
    refine v10_treePart_7 ⟨fun c => absurd c (by omega), fun _ => ⟨by omega, by omega, ?_⟩⟩
    rw [(mt.2 _ (by omega) h1).2.2, w32_id (by omega) (by omega), ← kd_s i0]
    exact m_treePart_l mt l1 i0 i1 q hk m (j + 1) (by omega) hk1
theorem m_treePart (mt : mT L h) (l1 : ln L ≤ 120) {i : Int} (i0 : 0 ≤ i) (i1 : i < ln L) {k : Nat} (hk : ∀ j : Nat, j < k → kd L i j < ln L) (k9 : k ≤ 100) (q : Q (kd L i k) h) : Good g (d + 1) i10_treePart [LR 10 608, LI i, LI k] S0 h S0 (retI Q) := by
  refine g10_treePart (fun _ _ => v10_treePart ?_)
  rw [w32_id (by omega) (by omega), ← kd_0 (L := L)]
  exact m_treePart_l mt l1 i0 i1 q hk k 0 (by omega) k9
end
