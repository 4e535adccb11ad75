/-! KINDS AND HEADS: E 0 0 kinds, E 0 1 heads, E 1 uppers, E 2 kinds of heads, E 3 parts, E 4 loose; c.. what the class holds of it, m.. the model -/
abbrev Ev : Type := Nat → Int → Int
noncomputable def cb (p : Prop) : Int := @ite _ p (Classical.propDecidable p) 1 0
theorem cb_t {p : Prop} (h : p) : cb p = 1 := by unfold cb; rw [if_pos h]
theorem cb_f {p : Prop} (h : ¬ p) : cb p = 0 := by unfold cb; rw [if_neg h]
theorem cb_0 {p : Prop} : cb p = 0 ↔ ¬ p := ⟨fun e h => by rw [cb_t h] at e; exact absurd e (by decide), cb_f⟩
theorem cb_1 {p : Prop} : cb p = 1 ↔ p := ⟨fun e => Classical.byContradiction (fun h => by rw [cb_f h] at e; exact absurd e (by decide)), cb_t⟩
theorem cb_01 (p : Prop) : cb p = 0 ∨ cb p = 1 := by
  by_cases h : p
  · exact Or.inr (cb_t h)
  · exact Or.inl (cb_f h)
theorem cb_c {p q : Prop} (h : p ↔ q) : cb p = cb q := by rw [propext h]
theorem b2i_cb {p : Prop} [Decidable p] : b2i p = cb p := by
  by_cases h : p
  · rw [b2i_t h, cb_t h]
  · rw [b2i_f h, cb_f h]
/-- tests of a boolean answer -/
theorem bz {p A B : Prop} (f : ¬ p → A) (t : p → B) : (cb p = 0 → A) ∧ (¬ cb p = 0 → B) := ⟨fun c => f (cb_0.mp c), fun c => t (Classical.byContradiction (fun z => c (cb_f z)))⟩
theorem bn {p A B : Prop} (t : p → A) (f : ¬ p → B) : (¬ cb p = 0 → A) ∧ (cb p = 0 → B) := ⟨(bz f t).2, (bz f t).1⟩
theorem hup_r {h : Hp} {a b i v : Int} (hb : b ≠ a) : hup h a i v b = h b := funext (fun _ => hup_ne hb)
def okE (E : Ev) : Prop := 1 ≤ E 0 0 ∧ E 0 0 ≤ 12 ∧ 0 ≤ E 0 1 ∧ E 0 1 ≤ 20 ∧ (∀ k : Int, 0 < k → k < E 0 0 → 0 ≤ E 1 k ∧ E 1 k < k) ∧ ∀ j : Int, 0 ≤ j → j < E 0 1 → 0 ≤ E 2 j ∧ E 2 j < E 0 0 ∧ 0 ≤ E 3 j ∧ E 3 j ≤ 4 ∧ (E 4 j = 0 ∨ E 4 j = 1)
def cE (E : Ev) (h : Hp) : Prop := h 5 4 = E 0 0 ∧ h 5 5 = E 0 1 ∧ h 6 0 = -1 ∧ (∀ k : Int, 0 < k → k < E 0 0 → h 6 k = E 1 k) ∧ ∀ j : Int, 0 ≤ j → j < E 0 1 → h 7 j = E 2 j ∧ h 8 j = E 3 j ∧ h 9 j = E 4 j
def mE (E : Ev) (h : Hp) : Prop := h 608 0 = E 0 0 ∧ h 608 2 = E 0 1 ∧ (∀ k : Int, 0 < k → k < E 0 0 → h 609 k = E 1 k) ∧ ∀ j : Int, 0 ≤ j → j < E 0 1 → h 610 j = E 2 j ∧ h 611 j = E 3 j ∧ h 612 j = E 4 j
theorem cE.to {E : Ev} {h h' : Hp} (H : cE E h) (e5 : h' 5 = h 5) (e6 : h' 6 = h 6) (e7 : h' 7 = h 7) (e8 : h' 8 = h 8) (e9 : h' 9 = h 9) : cE E h' := by
  unfold cE at *
  rw [e5, e6, e7, e8, e9]
  exact H
theorem mE.to {E : Ev} {h h' : Hp} (H : mE E h) (e0 : h' 608 0 = h 608 0) (e2 : h' 608 2 = h 608 2) (e6 : h' 609 = h 609) (e7 : h' 610 = h 610) (e8 : h' 611 = h 611) (e9 : h' 612 = h 612) : mE E h' := by
  unfold mE at *
  rw [e0, e2, e6, e7, e8, e9]
  exact H
/-- whether a kind is under another -/
def lieF (u : Int → Int) : Nat → Int → Int → Prop
  | 0, k, b => k = b
  | n + 1, k, b => k = b ∨ (0 < k ∧ lieF u n (u k) b)
def lie (E : Ev) (a b : Int) : Prop := lieF (E 1) 12 a b
theorem lieF_n {E : Ev} (ok : okE E) : ∀ (n m : Nat) (k b : Int), 0 ≤ k → k < E 0 0 → k ≤ n → k ≤ m → (lieF (E 1) n k b ↔ lieF (E 1) m k b)
  | 0, 0, k, b, _, _, _, _ => Iff.rfl
  | 0, m + 1, k, b, h0, _, h1, _ => by
    have : k = 0 := by omega
    subst this
    simp [lieF]
  | n + 1, 0, k, b, h0, _, _, h1 => by
    have : k = 0 := by omega
    subst this
    simp [lieF]
  | n + 1, m + 1, k, b, h0, hk, h1, h2 => by
    by_cases z : 0 < k
    · have hu := ok.2.2.2.2.1 k z hk
      have := lieF_n ok n m (E 1 k) b hu.1 (by omega) (by omega) (by omega)
      simp only [lieF, this]
    · simp [lieF, z]
theorem lie_s {E : Ev} (ok : okE E) {k b : Int} (h0 : 0 ≤ k) (hk : k < E 0 0) : lie E k b ↔ k = b ∨ (0 < k ∧ lie E (E 1 k) b) := by
  have o2 := ok.2.1
  unfold lie
  rw [lieF_n ok 12 13 k b h0 hk (by omega) (by omega)]
  rfl
/-- a node as it may be -/
def okN (E : Ev) (x : Nd) : Prop :=
  (x 0 = 0 ∧ 0 ≤ x 1 ∧ x 1 < E 0 1 ∧ x 2 = 0 ∧ x 3 = -1 ∧ x 4 = 0 ∧ x 5 = 0 ∧ x 6 = 0 ∧ x 7 = E 3 (x 1) ∧ x 8 = E 4 (x 1) ∧ x 9 = E 2 (x 1)) ∨
  (x 0 = 1 ∧ x 1 = -1 ∧ x 2 = 0 ∧ x 3 = -1 ∧ x 4 = 0 ∧ -1000000000000000000 < x 5 ∧ x 5 < 1000000000000000000 ∧ x 6 = 0 ∧ x 7 = 0 ∧ x 8 = 0 ∧ x 9 = 0) ∨
  (x 0 = 2 ∧ x 1 = -1 ∧ 0 ≤ x 2 ∧ x 2 < E 0 0 ∧ -1 ≤ x 3 ∧ x 3 < 10 ∧ ((x 4 = 0 ∧ x 5 = 0 ∧ x 6 = 0) ∨ (x 4 = 1 ∧ -1000000000000000000 < x 5 ∧ x 5 < 1000000000000000000 ∧ -1000000000000000000 < x 6 ∧ x 6 < 1000000000000000000)) ∧ x 7 = 0 ∧ x 8 = 0 ∧ x 9 = 0) ∨
  ((x 0 = 3 ∨ x 0 = 4) ∧ x 1 = -1 ∧ x 2 = 0 ∧ x 3 = -1 ∧ x 4 = 0 ∧ x 5 = 0 ∧ x 6 = 0 ∧ x 7 = 1 ∧ x 8 = 0 ∧ x 9 = 0)
theorem okN.p7 {E : Ev} (ok : okE E) {x : Nd} (h : okN E x) : 0 ≤ x 7 ∧ x 7 ≤ 4 := by
  rcases h with h | h | h | h
  · have := ok.2.2.2.2.2 (x 1) h.2.1 h.2.2.1
    omega
  · omega
  · omega
  · omega
theorem okN.p9 {E : Ev} (ok : okE E) {x : Nd} (h : okN E x) : 0 ≤ x 9 ∧ x 9 < E 0 0 := by
  have o1 := ok.1
  rcases h with h | h | h | h
  · have := ok.2.2.2.2.2 (x 1) h.2.1 h.2.2.1
    omega
  · omega
  · omega
  · omega
theorem okN.p2 {E : Ev} (ok : okE E) {x : Nd} (h : okN E x) : 0 ≤ x 2 ∧ x 2 < E 0 0 := by
  have o1 := ok.1
  rcases h with h | h | h | h <;> omega
/-- all nodes of a row -/
def okL (E : Ev) (L : NL) : Prop := ∀ i : Int, 0 ≤ i → i < ln L → okN E (nd L i)
/-- two nodes are alike -/
def alk (L : NL) (a b : Int) : Prop := sz L a = sz L b ∧ ∀ k : Int, 0 ≤ k → k < sz L a → nd L (a + k) 1 = nd L (b + k) 1 ∧ nd L (a + k) 5 = nd L (b + k) 5
/-- a hole of P takes the node t of T, its name aside -/
def fh (E : Ev) (P T : NL) (p t : Int) : Prop := lie E (nd T t 9) (nd P p 2) ∧ (nd P p 4 = 1 → nd T t 0 = 1 ∧ nd P p 5 ≤ nd T t 5 ∧ nd T t 5 ≤ nd P p 6)
/-- Nodes of the class at n with room c: rows of L; sizes; parents -/
def NDs (g : Gl) (n c : Int) : Prop := 4 ≤ n ∧ lnn g (n + 1) = c ∧ lnn g (n + 2) = c ∧ lnn g (n + 3) = c ∧ lnn g (n + 4) = c ∧ lnn g (n + 5) = c ∧ lnn g (n + 6) = c ∧ lnn g (n + 7) = c ∧ lnn g (n + 8) = c ∧ lnn g (n + 9) = c
def cN (n : Int) (L : NL) (h : Hp) : Prop := h n 9 = ln L ∧ ∀ i : Int, 0 ≤ i → i < ln L → h (n + 1) i = nd L i 0 ∧ h (n + 2) i = nd L i 1 ∧ h (n + 3) i = nd L i 2 ∧ h (n + 4) i = nd L i 3 ∧ h (n + 5) i = nd L i 4 ∧ h (n + 6) i = nd L i 5 ∧ h (n + 7) i = nd L i 6
def cS (n : Int) (L : NL) (h : Hp) : Prop := ∀ i : Int, 0 ≤ i → i < ln L → h (n + 9) i = sz L i
theorem cN.to {n : Int} {L : NL} {h h' : Hp} (H : cN n L h) (e0 : h' n 9 = h n 9) (e : ∀ k : Int, 1 ≤ k → k ≤ 7 → h' (n + k) = h (n + k)) : cN n L h' := by
  unfold cN at *
  rw [e0, e 1 (by decide) (by decide), e 2 (by decide) (by decide), e 3 (by decide) (by decide), e 4 (by decide) (by decide), e 5 (by decide) (by decide), e 6 (by decide) (by decide), e 7 (by decide) (by decide)]
  exact H
theorem cS.to {n : Int} {L : NL} {h h' : Hp} (H : cS n L h) (e : h' (n + 9) = h (n + 9)) : cS n L h' := by
  unfold cS at *
  rw [e]
  exact H
theorem NDs.tree {g : Gl} : NDs g 14 120 := ⟨by decide, rfl, rfl, rfl, rfl, rfl, rfl, rfl, rfl, rfl⟩
theorem NDs.draft {g : Gl} : NDs g 24 120 := ⟨by decide, rfl, rfl, rfl, rfl, rfl, rfl, rfl, rfl, rfl⟩
theorem lnn_p {g : Gl} {p k a : Int} {v : Nat × Int} (h0 : 0 ≤ p) (h1 : p < 40) (k0 : 0 ≤ k) (k1 : k < 14) (e : a = 35 + 14 * p + k) (hv : shP.getD k.toNat (99, 0) = v) : lnn g a = v.2 := by
  unfold lnn
  rw [if_neg (by omega), sh_pk h0 h1 k0 k1 e hv]
theorem NDs.pat {g : Gl} {p : Int} (h0 : 0 ≤ p) (h1 : p < 40) : NDs g (35 + 14 * p + 1) 24 := ⟨by omega, lnn_p (k := 2) h0 h1 (by decide) (by decide) (by omega) rfl, lnn_p (k := 3) h0 h1 (by decide) (by decide) (by omega) rfl, lnn_p (k := 4) h0 h1 (by decide) (by decide) (by omega) rfl, lnn_p (k := 5) h0 h1 (by decide) (by decide) (by omega) rfl, lnn_p (k := 6) h0 h1 (by decide) (by decide) (by omega) rfl, lnn_p (k := 7) h0 h1 (by decide) (by decide) (by omega) rfl, lnn_p (k := 8) h0 h1 (by decide) (by decide) (by omega) rfl, lnn_p (k := 9) h0 h1 (by decide) (by decide) (by omega) rfl, lnn_p (k := 10) h0 h1 (by decide) (by decide) (by omega) rfl⟩
section
variable {g : Gl} {d : Nat} {h : Hp} {E : Ev} {L : NL} {Q : Int → Hp → Prop}
theorem f_hasKind (ce : cE E h) {x : Int} (q : Q (cb (0 ≤ x ∧ x < E 0 0)) h) : Good g (d + 1) i2_hasKind [LR 2 5, LL x] S0 h S0 (retI Q) :=
  e_hasKind (by rw [b2i_cb, ce.1]; exact q)
theorem f_hasHead (ce : cE E h) {x : Int} (q : Q (cb (0 ≤ x ∧ x < E 0 1)) h) : Good g (d + 1) i2_hasHead [LR 2 5, LI x] S0 h S0 (retI Q) :=
  e_hasHead (by rw [b2i_cb, ce.2.1]; exact q)
theorem f_isBelow_l (ok : okE E) (ce : cE E h) {b : Int} : ∀ (n : Nat) (y k : Int), y + n = 12 → 0 ≤ y → -1 ≤ k → k < E 0 0 → k + y < 12 → (k = -1 → Q 0 h) → (0 ≤ k → Q (cb (lie E k b)) h) → L0 g (d + 1) m2_isBelow (retI Q) 5 [some (LR 2 5), none, some (LI b), some (LI k), some (LI y)] h
  | 0, y, k, hy, _, k0, k1, kb, q0, q1 => v2_isBelow_5 ⟨fun _ => q0 (by omega), fun c => absurd c (by omega)⟩
  | n + 1, y, k, hy, kk, k0, k1, kb, q0, q1 => by
    have o2 := ok.2.1
    refine v2_isBelow_5 ⟨fun c => absurd c (by omega), fun c => ?_⟩
    refine f_hasKind ce (bz (fun c2 => q0 (by omega)) (fun c2 => ⟨fun c3 => ⟨c2.1, by omega, ?_⟩, fun c3 => ?_⟩))
    · have q := q1 c2.1
      rw [cb_c (lie_s ok c2.1 c2.2)] at q
      rw [w32_id (by omega) (by omega)]
      by_cases z : k = 0
      · subst z
        rw [ce.2.2.1]
        refine f_isBelow_l ok ce n (y + 1) (-1) (by omega) (by omega) (by decide) (by omega) (by omega) (fun _ => ?_) (fun c => absurd c (by decide))
        rwa [cb_f (by omega)] at q
      · have hu := ok.2.2.2.2.1 k (by omega) k1
        rw [ce.2.2.2.1 k (by omega) k1]
        refine f_isBelow_l ok ce n (y + 1) (E 1 k) (by omega) (by omega) (by omega) (by omega) (by omega) (fun c => absurd c (by omega)) (fun _ => ?_)
        rwa [cb_c (show (k = b ∨ 0 < k ∧ lie E (E 1 k) b) ↔ lie E (E 1 k) b from ⟨fun z => z.elim (fun z => absurd z c3) (fun z => z.2), fun z => Or.inr ⟨by omega, z⟩⟩)] at q
    · have q := q1 c2.1
      rwa [cb_t ((lie_s ok c2.1 c2.2).mpr (Or.inl c3))] at q
theorem f_isBelow (ok : okE E) (ce : cE E h) {a b : Int} (h0 : 0 ≤ a) (h1 : a < E 0 0) (q : Q (cb (lie E a b)) h) : Good g (d + 2) i2_isBelow [LR 2 5, LI a, LI b] S0 h S0 (retI Q) :=
  g2_isBelow (fun _ _ => v2_isBelow (f_isBelow_l ok ce 12 0 a rfl (by omega) (by omega) h1 (by have := ok.2.1; omega) (fun c => absurd c (by omega)) (fun _ => q)))
theorem f_kindOfNode (ok : okE E) (ce : cE E h) {n c i : Int} (nw : NDs g n c) (cn : cN n L h) (lc : ln L ≤ c) (i0 : 0 ≤ i) (i1 : i < ln L) (on : okN E (nd L i)) (q : Q (nd L i 9) h) : Good g (d + 2) i2_kindOfNode [LR 2 5, LR 5 n, LI i] S0 h S0 (retI Q) := by
  refine g2_kindOfNode (fun _ _ => v2_kindOfNode nw.1 ⟨i0, by rw [nw.2.2.1]; omega, f_hasHead ce ?_⟩)
  have o4 := ok.2.2.2.1
  rw [(cn.2 i i0 i1).2.1]
  refine bz (fun c => ?_) (fun c => ⟨c.1, by omega, ?_⟩)
  · rcases on with o | o | o | o
    · exact absurd ⟨o.2.1, o.2.2.1⟩ c
    · rwa [o.2.2.2.2.2.2.2.2.2.2] at q
    · rwa [o.2.2.2.2.2.2.2.2.2] at q
    · rwa [o.2.2.2.2.2.2.2.2.2] at q
  · rw [(ce.2.2.2.2 _ c.1 c.2).1]
    rcases on with o | o | o | o
    · rwa [o.2.2.2.2.2.2.2.2.2.2] at q
    · omega
    · omega
    · omega
theorem f_partsOfNode (ok : okE E) (ce : cE E h) {n c i : Int} (nw : NDs g n c) (cn : cN n L h) (lc : ln L ≤ c) (i0 : 0 ≤ i) (i1 : i < ln L) (on : okN E (nd L i)) (q : Q (nd L i 7) h) : Good g (d + 2) i2_partsOfNode [LR 2 5, LR 5 n, LI i] S0 h S0 (retI Q) := by
  have o4 := ok.2.2.2.1
  refine g2_partsOfNode (fun _ _ => v2_partsOfNode nw.1 ⟨i0, by rw [nw.2.1]; omega, ?_⟩)
  rw [(cn.2 i i0 i1).2.1, (cn.2 i i0 i1).1]
  rcases on with o | o | o | o
  · refine ⟨fun c => absurd o.1 c, fun _ => ⟨by rw [nw.2.2.1]; omega, f_hasHead ce ?_⟩⟩
    rw [(cn.2 i i0 i1).2.1]
    refine bz (fun c => absurd ⟨o.2.1, o.2.2.1⟩ c) (fun c => ⟨o.2.1, by omega, ?_⟩)
    rw [(ce.2.2.2.2 _ c.1 c.2).2.1]
    rwa [o.2.2.2.2.2.2.2.2.1] at q
  · rw [o.2.2.2.2.2.2.2.2.1] at q
    refine ⟨fun _ => ⟨fun c => absurd c (by omega), fun _ => ⟨fun _ => q, fun c => absurd c (by omega)⟩⟩, fun c => absurd c (by omega)⟩
  · rw [o.2.2.2.2.2.2.2.1] at q
    refine ⟨fun _ => ⟨fun c => absurd c (by omega), fun _ => ⟨fun _ => q, fun c => absurd c (by omega)⟩⟩, fun c => absurd c (by omega)⟩
  · rw [o.2.2.2.2.2.2.2.1] at q
    refine ⟨fun _ => ⟨fun c => q, fun _ => ⟨fun c => absurd c (by omega), fun c => q⟩⟩, fun c => absurd c (by omega)⟩
theorem f_isLooseNode (ok : okE E) (ce : cE E h) {n c i : Int} (nw : NDs g n c) (cn : cN n L h) (lc : ln L ≤ c) (i0 : 0 ≤ i) (i1 : i < ln L) (on : okN E (nd L i)) (q : Q (cb (nd L i 8 = 1)) h) : Good g (d + 2) i2_isLooseNode [LR 2 5, LR 5 n, LI i] S0 h S0 (retI Q) := by
  have o4 := ok.2.2.2.1
  refine g2_isLooseNode (fun _ _ => v2_isLooseNode nw.1 ⟨i0, by rw [nw.2.2.1]; omega, f_hasHead ce ?_⟩)
  rw [(cn.2 i i0 i1).2.1]
  refine bz (fun c => ?_) (fun c => ⟨c.1, by omega, ?_⟩)
  · rcases on with o | o | o | o
    · exact absurd ⟨o.2.1, o.2.2.1⟩ c
    · rwa [cb_f (by omega)] at q
    · rwa [cb_f (by omega)] at q
    · rwa [cb_f (by omega)] at q
  · rw [(ce.2.2.2.2 _ c.1 c.2).2.2]
    rcases on with o | o | o | o
    · rw [o.2.2.2.2.2.2.2.2.2.1] at q
      have := (ok.2.2.2.2.2 _ c.1 c.2).2.2.2.2
      refine fun _ => ⟨fun z => ?_, fun z => ?_⟩
      · rwa [cb_f (by omega)] at q
      · rwa [cb_t (by omega)] at q
    · omega
    · omega
    · omega
theorem f_has {n x : Int} (hn : 4 ≤ n) (e : h n 9 = ln L) (q : Q (cb (0 ≤ x ∧ x < ln L)) h) : Good g (d + 1) i5_has [LR 5 n, LI x] S0 h S0 (retI Q) := by
  refine g5_has (fun _ _ => v5_has hn ?_)
  rw [e]
  refine ⟨fun c => ?_, fun c => ⟨fun c2 => ?_, fun c2 => ?_⟩⟩
  · rwa [cb_f (by omega)] at q
  · rwa [cb_f (by omega)] at q
  · rwa [cb_t (by omega)] at q
end
