/-! SMALL CALLS: kind, isUnder, head, node, alike, out, back -/
def eK (E : Ev) (u : Int) : Ev := fun i k => if i = 0 ∧ k = 0 then E 0 0 + 1 else if i = 1 ∧ k = E 0 0 then u else E i k
def eH (E : Ev) (k a l : Int) : Ev := fun i j => if i = 0 ∧ j = 1 then E 0 1 + 1 else if i = 2 ∧ j = E 0 1 then k else if i = 3 ∧ j = E 0 1 then a else if i = 4 ∧ j = E 0 1 then l else E i j
theorem eK_ok {E : Ev} {u : Int} (ok : okE E) (u0 : 0 ≤ u) (u1 : u < E 0 0) (l : E 0 0 < 12) : okE (eK E u) ∧ ext E (eK E u) := by
  obtain ⟨o1, o2, o3, o4, o5, o6⟩ := ok
  have e0 : eK E u 0 0 = E 0 0 + 1 := by simp [eK]
  have e1 : eK E u 0 1 = E 0 1 := by simp [eK]
  have e2 : ∀ k : Int, eK E u 1 k = if k = E 0 0 then u else E 1 k := fun k => by simp [eK]
  have e3 : ∀ k : Int, eK E u 2 k = E 2 k := fun k => by simp [eK]
  have e4 : ∀ k : Int, eK E u 3 k = E 3 k := fun k => by simp [eK]
  have e5 : ∀ k : Int, eK E u 4 k = E 4 k := fun k => by simp [eK]
  refine ⟨⟨by omega, by omega, by omega, by omega, fun k k0 k1 => ?_, fun j j0 j1 => ?_⟩, by omega, by omega, fun k k0 k1 => ?_, fun j j0 j1 => ⟨e3 j, e4 j, e5 j⟩⟩
  · rw [e2]
    split
    · omega
    · have := o5 k k0 (by omega); omega
  · have := o6 j j0 (by omega)
    rw [e3, e4, e5, e0]
    exact ⟨this.1, by omega, this.2.2⟩
  · rw [e2, if_neg (by omega)]
theorem eH_ok {E : Ev} {k a l : Int} (ok : okE E) (k0 : 0 ≤ k) (k1 : k < E 0 0) (a0 : 0 ≤ a) (a1 : a ≤ 4) (l01 : l = 0 ∨ l = 1) (f : E 0 1 < 20) : okE (eH E k a l) ∧ ext E (eH E k a l) := by
  obtain ⟨o1, o2, o3, o4, o5, o6⟩ := ok
  have e0 : eH E k a l 0 0 = E 0 0 := by simp [eH]
  have e1 : eH E k a l 0 1 = E 0 1 + 1 := by simp [eH]
  have e2 : ∀ i : Int, eH E k a l 1 i = E 1 i := fun i => by simp [eH]
  have e3 : ∀ j : Int, eH E k a l 2 j = if j = E 0 1 then k else E 2 j := fun j => by simp [eH]
  have e4 : ∀ j : Int, eH E k a l 3 j = if j = E 0 1 then a else E 3 j := fun j => by simp [eH]
  have e5 : ∀ j : Int, eH E k a l 4 j = if j = E 0 1 then l else E 4 j := fun j => by simp [eH]
  refine ⟨⟨by omega, by omega, by omega, by omega, fun i i0 i1 => ?_, fun j j0 j1 => ?_⟩, by omega, by omega, fun i i0 i1 => e2 i, fun j j0 j1 => ?_⟩
  · rw [e2]; exact o5 i i0 (by omega)
  · rw [e3, e4, e5, e0]
    by_cases c : j = E 0 1
    · rw [if_pos c, if_pos c, if_pos c]
      exact ⟨k0, k1, a0, a1, l01⟩
    · rw [if_neg c, if_neg c, if_neg c]
      exact o6 j j0 (by omega)
  · rw [e3, e4, e5, if_neg (by omega), if_neg (by omega), if_neg (by omega)]
    exact ⟨rfl, rfl, rfl⟩
section
variable {g : Gl} {d : Nat} {h : Hp} {E : Ev} {T : NL} {Q : Int → Hp → Prop}
theorem x_kind (ok : okE E) (ce : cE E h) {u : Int} (q0 : ¬ (0 ≤ u ∧ u < E 0 0) → Q (-1001) h) (q1 : 0 ≤ u → u < E 0 0 → E 0 0 = 12 → Q (-1004) h) (q2 : 0 ≤ u → u < E 0 0 → E 0 0 < 12 → ∀ h' : Hp, cE (eK E u) h' → (∀ a : Int, a ≠ 5 → a ≠ 6 → h' a = h a) → Q (E 0 0) h') : Good g (d + 2) i9_kind [LR 9 4, LI u] S0 h S0 (retI Q) := by
  obtain ⟨o1, o2, o3, o4, o5, o6⟩ := id ok
  obtain ⟨c1, c2, c3, c4, c5⟩ := id ce
  refine g9_kind (fun _ => v9_kind (f_hasKind ce (bn (fun c => ?_) q0)))
  refine g2_addKind (fun _ => v2_addKind ?_)
  rw [c1]
  refine ⟨fun z => ⟨by omega, fun h2 k2 h3 k3 => ?_⟩, fun z => q1 c.1 c.2 (by omega)⟩
  have e2 : h2 5 4 = E 0 0 := by rw [k2, hup_r (by decide), c1]
  rw [e2, w32_id (by omega) (by omega)] at k3
  rw [k3, hup_at, w32_id (by omega) (by omega), show E 0 0 + 1 - 1 = E 0 0 by omega, ← k3]
  refine q2 c.1 c.2 z h3 ⟨?_, ?_, ?_, fun k b0 b1 => ?_, fun j j0 j1 => ?_⟩ (fun a x1 x2 => by rw [k3, hup_r x1, k2, hup_r x2])
  · rw [k3, hup_at]; simp [eK]
  · rw [k3, hup_nj (by decide), k2, hup_r (by decide), c2]; simp [eK]
  · rw [k3, hup_r (by decide), k2, hup_nj (by omega), c3]
  · have e : eK E u 1 k = if k = E 0 0 then u else E 1 k := by simp [eK]
    have f : eK E u 0 0 = E 0 0 + 1 := by simp [eK]
    rw [e, k3, hup_r (by decide)]
    by_cases ck : k = E 0 0
    · rw [if_pos ck, k2, ck, hup_at]
    · rw [if_neg ck, k2, hup_nj ck]
      exact c4 k b0 (by omega)
  · have f : eK E u 0 1 = E 0 1 := by simp [eK]
    have := c5 j j0 (by omega)
    rw [k3, hup_r (by decide), hup_r (by decide), hup_r (by decide), k2, hup_r (by decide), hup_r (by decide), hup_r (by decide)]
    simpa [eK] using this
theorem y_kind (ok : okE E) (me : mE E h) {u : Int} (q0 : ¬ (0 ≤ u ∧ u < E 0 0) → Q (-1001) h) (q1 : 0 ≤ u → u < E 0 0 → E 0 0 = 12 → Q (-1004) h) (q2 : 0 ≤ u → u < E 0 0 → E 0 0 < 12 → ∀ h' : Hp, mE (eK E u) h' → (∀ a : Int, a ≠ 608 → a ≠ 609 → h' a = h a) → (∀ j : Int, j ≠ 0 → h' 608 j = h 608 j) → Q (E 0 0) h') : Good g (d + 3) i10_kind [LR 10 608, LI u] S0 h S0 (retI Q) := by
  obtain ⟨o1, o2, o3, o4, o5, o6⟩ := id ok
  obtain ⟨c1, c2, c4, c5⟩ := id me
  refine g10_kind (fun _ => v10_kind (m_noKind ok me (bz (fun c => ?_) q0)))
  have c := Classical.not_not.mp c
  rw [c1]
  refine ⟨fun z => ⟨by omega, by omega, fun h2 k2 h3 k3 => ?_⟩, fun z => q1 c.1 c.2 z⟩
  have e2 : h2 608 0 = E 0 0 := by rw [k2, hup_r (by decide), c1]
  rw [e2, w32_id (by omega) (by omega)] at k3
  rw [k3, hup_at, w32_id (by omega) (by omega), show E 0 0 + 1 - 1 = E 0 0 by omega, ← k3]
  refine q2 c.1 c.2 (by omega) h3 ⟨?_, ?_, fun k b0 b1 => ?_, fun j j0 j1 => ?_⟩ (fun a x1 x2 => by rw [k3, hup_r x1, k2, hup_r x2]) (fun j hj => by rw [k3, hup_nj hj, k2, hup_r (by decide)])
  · rw [k3, hup_at]; simp [eK]
  · rw [k3, hup_nj (by decide), k2, hup_r (by decide), c2]; simp [eK]
  · have e : eK E u 1 k = if k = E 0 0 then u else E 1 k := by simp [eK]
    have f : eK E u 0 0 = E 0 0 + 1 := by simp [eK]
    rw [e, k3, hup_r (by decide)]
    by_cases ck : k = E 0 0
    · rw [if_pos ck, k2, ck, hup_at]
    · rw [if_neg ck, k2, hup_nj ck]
      exact c4 k b0 (by omega)
  · have f : eK E u 0 1 = E 0 1 := by simp [eK]
    have := c5 j j0 (by omega)
    rw [k3, hup_r (by decide), hup_r (by decide), hup_r (by decide), k2, hup_r (by decide), hup_r (by decide), hup_r (by decide)]
    simpa [eK] using this
noncomputable def undr (E : Ev) (a b : Int) : Int := if ¬ ((0 ≤ a ∧ a < E 0 0) ∧ 0 ≤ b ∧ b < E 0 0) then -1001 else cb (lie E a b)
theorem x_isUnder (ok : okE E) (ce : cE E h) {a b : Int} (q : Q (undr E a b) h) : Good g (d + 3) i9_isUnder [LR 9 4, LI a, LI b] S0 h S0 (retI Q) := by
  unfold undr at q
  refine g9_isUnder (fun _ _ => v9_isUnder (f_hasKind (d := d + 1) ce (bz (fun c => by rwa [if_pos (fun z => c z.1)] at q) (fun c => f_hasKind (d := d + 1) ce (bn (fun c2 => f_isBelow ok ce c.1 c.2 (x_asInt (d := d + 1) (cb_01 _) ?_)) (fun c2 => by rwa [if_pos (fun z => c2 z.2)] at q))))))
  rwa [if_neg (not_not_intro ⟨c, c2⟩)] at q
theorem y_isUnder (ok : okE E) (me : mE E h) {a b : Int} (q : Q (undr E a b) h) : Good g (d + 3) i10_isUnder [LR 10 608, LI a, LI b] S0 h S0 (retI Q) := by
  unfold undr at q
  refine g10_isUnder (fun _ _ => v10_isUnder (m_noKind (d := d) ok me (bn (fun c => by rwa [if_pos (fun z => c z.1)] at q) (fun c => m_noKind (d := d) ok me (bz (fun c2 => ?_) (fun c2 => by rwa [if_pos (fun z => c2 z.2)] at q))))))
  have c := Classical.not_not.mp c
  have c2 := Classical.not_not.mp c2
  rw [if_neg (not_not_intro ⟨c, c2⟩)] at q
  refine m_lies (d := d + 1) ok me c.1 c.2 (bz (fun z => by rwa [cb_f z] at q) (fun z => by rwa [cb_t z] at q))
theorem x_head (ok : okE E) (ce : cE E h) {k a l : Int} (l01 : l = 0 ∨ l = 1) (q0 : ¬ (0 ≤ k ∧ k < E 0 0) → Q (-1001) h) (q1 : 0 ≤ k → k < E 0 0 → ¬ (0 ≤ a ∧ a ≤ 4) → Q (-1002) h) (q2 : 0 ≤ k → k < E 0 0 → 0 ≤ a → a ≤ 4 → E 0 1 = 20 → Q (-1004) h) (q3 : 0 ≤ k → k < E 0 0 → 0 ≤ a → a ≤ 4 → E 0 1 < 20 → ∀ h' : Hp, cE (eH E k a l) h' → (∀ x : Int, x ≠ 5 → x ≠ 7 → x ≠ 8 → x ≠ 9 → h' x = h x) → Q (E 0 1) h') : Good g (d + 2) i9_head [LR 9 4, LI k, LI a, LI l] S0 h S0 (retI Q) := by
  obtain ⟨o1, o2, o3, o4, o5, o6⟩ := id ok
  obtain ⟨c1, c2, c3, c4, c5⟩ := id ce
  refine g9_head (fun _ _ _ => v9_head (f_hasKind ce (bn (fun c => ⟨fun z => q1 c.1 c.2 (by omega), fun z => ⟨fun z2 => ?_, fun z2 => q1 c.1 c.2 (by omega)⟩⟩) q0)))
  refine g2_addHead (fun _ _ _ => v2_addHead ?_)
  rw [c2]
  refine ⟨fun z3 => ⟨by omega, fun h2 k2 => ?_⟩, fun z3 => q2 c.1 c.2 (by omega) z2 (by omega)⟩
  have e2 : h2 5 5 = E 0 1 := by rw [k2, hup_r (by decide), c2]
  rw [e2]
  refine ⟨by omega, by omega, fun h3 k3 => ?_⟩
  have e3 : h3 5 5 = E 0 1 := by rw [k3, hup_r (by decide), e2]
  rw [e3]
  refine ⟨by omega, by omega, l01, fun h4 k4 h5 k5 => ?_⟩
  have e4 : h4 5 5 = E 0 1 := by rw [k4, hup_r (by decide), e3]
  rw [e4, w32_id (by omega) (by omega)] at k5
  rw [k5, hup_at, w32_id (by omega) (by omega), show E 0 1 + 1 - 1 = E 0 1 by omega, ← k5]
  refine q3 c.1 c.2 (by omega) z2 z3 h5 ⟨?_, ?_, ?_, fun i b0 b1 => ?_, fun j j0 j1 => ?_⟩ (fun x x1 x2 x3 x4 => by rw [k5, hup_r x1, k4, hup_r x4, k3, hup_r x3, k2, hup_r x2])
  · rw [k5, hup_nj (by decide), k4, hup_r (by decide), k3, hup_r (by decide), k2, hup_r (by decide), c1]; simp [eH]
  · rw [k5, hup_at]; simp [eH]
  · rw [k5, hup_r (by decide), k4, hup_r (by decide), k3, hup_r (by decide), k2, hup_r (by decide), c3]
  · have f : eH E k a l 0 0 = E 0 0 := by simp [eH]
    have := c4 i b0 (by omega)
    rw [k5, hup_r (by decide), k4, hup_r (by decide), k3, hup_r (by decide), k2, hup_r (by decide), this]
    simp [eH]
  · have f : eH E k a l 0 1 = E 0 1 + 1 := by simp [eH]
    have r7 : h5 7 j = hup h 7 (E 0 1) k 7 j := by rw [k5, hup_r (by decide), k4, hup_r (by decide), k3, hup_r (by decide), k2]
    have r8 : h5 8 j = hup h2 8 (E 0 1) a 8 j := by rw [k5, hup_r (by decide), k4, hup_r (by decide), k3]
    have r9 : h5 9 j = hup h3 9 (E 0 1) l 9 j := by rw [k5, hup_r (by decide), k4]
    rw [r7, r8, r9]
    by_cases cj : j = E 0 1
    · subst cj
      rw [hup_at, hup_at, hup_at]
      simp [eH]
    · rw [hup_nj cj, hup_nj cj, hup_nj cj, k3, hup_r (by decide), k2, hup_r (by decide), hup_r (by decide)]
      have := c5 j j0 (by omega)
      simpa [eH, cj] using this
theorem y_head (ok : okE E) (me : mE E h) {k a l : Int} (l01 : l = 0 ∨ l = 1) (q0 : ¬ (0 ≤ k ∧ k < E 0 0) → Q (-1001) h) (q1 : 0 ≤ k → k < E 0 0 → ¬ (0 ≤ a ∧ a ≤ 4) → Q (-1002) h) (q2 : 0 ≤ k → k < E 0 0 → 0 ≤ a → a ≤ 4 → E 0 1 = 20 → Q (-1004) h) (q3 : 0 ≤ k → k < E 0 0 → 0 ≤ a → a ≤ 4 → E 0 1 < 20 → ∀ h' : Hp, mE (eH E k a l) h' → (∀ x : Int, x ≠ 608 → x ≠ 610 → x ≠ 611 → x ≠ 612 → h' x = h x) → (∀ j : Int, j ≠ 2 → h' 608 j = h 608 j) → Q (E 0 1) h') : Good g (d + 3) i10_head [LR 10 608, LI k, LI a, LI l] S0 h S0 (retI Q) := by
  obtain ⟨o1, o2, o3, o4, o5, o6⟩ := id ok
  obtain ⟨c1, c2, c4, c5⟩ := id me
  refine g10_head (fun _ _ _ => v10_head (m_noKind (d := d) ok me (bz (fun c => ?_) q0)))
  have c := Classical.not_not.mp c
  refine m_in (d := d + 1) (bn (fun z => ?_) (fun z => q1 c.1 c.2 (by omega)))
  rw [c2]
  refine ⟨fun z3 => ⟨by omega, by omega, fun h2 k2 => ?_⟩, fun z3 => q2 c.1 c.2 z.1 z.2 (by omega)⟩
  have e2 : h2 608 2 = E 0 1 := by rw [k2, hup_r (by decide), c2]
  rw [e2]
  refine ⟨by omega, by omega, fun h3 k3 => ?_⟩
  have e3 : h3 608 2 = E 0 1 := by rw [k3, hup_r (by decide), e2]
  rw [e3]
  refine ⟨by omega, by omega, l01, fun h4 k4 h5 k5 => ?_⟩
  have e4 : h4 608 2 = E 0 1 := by rw [k4, hup_r (by decide), e3]
  rw [e4, w32_id (by omega) (by omega)] at k5
  rw [k5, hup_at, w32_id (by omega) (by omega), show E 0 1 + 1 - 1 = E 0 1 by omega, ← k5]
  refine q3 c.1 c.2 z.1 z.2 (by omega) h5 ⟨?_, ?_, fun i b0 b1 => ?_, fun j j0 j1 => ?_⟩ (fun x x1 x2 x3 x4 => by rw [k5, hup_r x1, k4, hup_r x4, k3, hup_r x3, k2, hup_r x2]) (fun j hj => by rw [k5, hup_nj hj, k4, hup_r (by decide), k3, hup_r (by decide), k2, hup_r (by decide)])
  · rw [k5, hup_nj (by decide), k4, hup_r (by decide), k3, hup_r (by decide), k2, hup_r (by decide), c1]; simp [eH]
  · rw [k5, hup_at]; simp [eH]
  · have f : eH E k a l 0 0 = E 0 0 := by simp [eH]
    have := c4 i b0 (by omega)
    rw [k5, hup_r (by decide), k4, hup_r (by decide), k3, hup_r (by decide), k2, hup_r (by decide), this]
    simp [eH]
  · have f : eH E k a l 0 1 = E 0 1 + 1 := by simp [eH]
    have r7 : h5 610 j = hup h 610 (E 0 1) k 610 j := by rw [k5, hup_r (by decide), k4, hup_r (by decide), k3, hup_r (by decide), k2]
    have r8 : h5 611 j = hup h2 611 (E 0 1) a 611 j := by rw [k5, hup_r (by decide), k4, hup_r (by decide), k3]
    have r9 : h5 612 j = hup h3 612 (E 0 1) l 612 j := by rw [k5, hup_r (by decide), k4]
    rw [r7, r8, r9]
    by_cases cj : j = E 0 1
    · subst cj
      rw [hup_at, hup_at, hup_at]
      simp [eH]
    · rw [hup_nj cj, hup_nj cj, hup_nj cj, k3, hup_r (by decide), k2, hup_r (by decide), hup_r (by decide)]
      have := c5 j j0 (by omega)
      simpa [eH, cj] using this
/-- what is told of a node -/
def ndR (T : NL) (x w R : Int) : Prop := (¬ (0 ≤ x ∧ x < ln T) → R = -1001) ∧ ((0 ≤ x ∧ x < ln T) → ((w < 0 ∨ 4 < w) → R = -1002) ∧ (w = 0 → R = nd T x 1) ∧ (w = 1 → R = nd T x 5) ∧ (w = 2 → isP T 0 x R) ∧ (w = 3 → R = sz T x) ∧ (w = 4 → R = nd T x 9))
theorem ndR_u {x w R R' : Int} (a : ndR T x w R) (b : ndR T x w R') : R = R' := by
  by_cases c : 0 ≤ x ∧ x < ln T
  · have a := a.2 c
    have b := b.2 c
    by_cases c2 : w = 2
    · exact isP_u (a.2.2.2.1 c2) (b.2.2.2.1 c2)
    · have : w < 0 ∨ 4 < w ∨ w = 0 ∨ w = 1 ∨ w = 3 ∨ w = 4 := by omega
      rcases this with z | z | z | z | z | z
      · rw [a.1 (Or.inl z), b.1 (Or.inl z)]
      · rw [a.1 (Or.inr z), b.1 (Or.inr z)]
      · rw [a.2.1 z, b.2.1 z]
      · rw [a.2.2.1 z, b.2.2.1 z]
      · rw [a.2.2.2.2.1 z, b.2.2.2.2.1 z]
      · rw [a.2.2.2.2.2 z, b.2.2.2.2.2 z]
  · rw [a.1 c, b.1 c]
theorem ndR_i {x w R : Int} (c : 0 ≤ x ∧ x < ln T) (a : ((w < 0 ∨ 4 < w) → R = -1002) ∧ (w = 0 → R = nd T x 1) ∧ (w = 1 → R = nd T x 5) ∧ (w = 2 → isP T 0 x R) ∧ (w = 3 → R = sz T x) ∧ (w = 4 → R = nd T x 9)) : ndR T x w R := ⟨fun z => absurd c z, fun _ => a⟩
theorem x_node (ok : okE E) (ce : cE E h) (oT : okT E T) (ct : cTr T h) {x w : Int} (q : ∀ R : Int, ndR T x w R → Q R h) : Good g (d + 3) i9_node [LR 9 4, LI x, LI w] S0 h S0 (retL Q) := by
  have l1 := oT.2.2.1
  refine g9_node (fun _ _ => v9_node (f_has (d := d + 1) (by decide) ct.1.1 (bn (fun c => ?_) (fun c => q _ ⟨fun _ => rfl, fun z => absurd z c⟩))))
  have C := ct.1.2 x c.1 c.2
  have q : ∀ R : Int, (((w < 0 ∨ 4 < w) → R = -1002) ∧ (w = 0 → R = nd T x 1) ∧ (w = 1 → R = nd T x 5) ∧ (w = 2 → isP T 0 x R) ∧ (w = 3 → R = sz T x) ∧ (w = 4 → R = nd T x 9)) → Q R h := fun R z => q R (ndR_i c z)
  refine ⟨fun z => q _ ⟨fun _ => rfl, by omega, by omega, by omega, by omega, by omega⟩, fun z => ⟨c.1, by omega, q _ ⟨by omega, fun _ => C.2.1, by omega, by omega, by omega, by omega⟩⟩, fun z => ⟨c.1, by omega, q _ ⟨by omega, by omega, fun _ => C.2.2.2.2.2.1, by omega, by omega, by omega⟩⟩, fun z => ⟨c.1, by omega, q _ ⟨by omega, by omega, by omega, fun _ => ct.2.2 x c.1 c.2, by omega, by omega⟩⟩, fun z => ⟨c.1, by omega, q _ ⟨by omega, by omega, by omega, by omega, fun _ => ct.2.1 x c.1 c.2, by omega⟩⟩, fun z => f_kindOfNode ok ce NDs.tree ct.1 l1 c.1 c.2 (oT.1 x c.1 c.2) (q _ ⟨by omega, by omega, by omega, by omega, by omega, fun _ => rfl⟩)⟩
theorem y_node (ok : okE E) (me : mE E h) (oT : okT E T) (mt : mTr T h) {x w : Int} (q : ∀ R : Int, ndR T x w R → Q R h) : Good g (d + 3) i10_node [LR 10 608, LI x, LI w] S0 h S0 (retL Q) := by
  have l1 := oT.2.2.1
  refine g10_node (fun _ _ => v10_node (m_noNode (d := d) mt.1.1 l1 (bz (fun c => ?_) (fun c => q _ ⟨fun _ => rfl, fun z => absurd z c⟩))))
  have c := Classical.not_not.mp c
  have C := mt.1.2 x c.1 c.2
  have q : ∀ R : Int, (((w < 0 ∨ 4 < w) → R = -1002) ∧ (w = 0 → R = nd T x 1) ∧ (w = 1 → R = nd T x 5) ∧ (w = 2 → isP T 0 x R) ∧ (w = 3 → R = sz T x) ∧ (w = 4 → R = nd T x 9)) → Q R h := fun R z => q R (ndR_i c z)
  have s1 := sz_le c.1 c.2
  have s2 := sz_pos c.1 c.2
  refine ⟨fun z => q _ ⟨fun _ => rfl, by omega, by omega, by omega, by omega, by omega⟩, fun z => ⟨c.1, by omega, q _ ⟨by omega, fun _ => C.1, by omega, by omega, by omega, by omega⟩⟩, fun z => ⟨c.1, by omega, q _ ⟨by omega, by omega, fun _ => C.2.1, by omega, by omega, by omega⟩⟩, fun z => ⟨c.1, by omega, q _ ⟨by omega, by omega, by omega, fun _ => mt.2 x c.1 c.2, by omega, by omega⟩⟩, fun z => ⟨c.1, by omega, q _ ⟨by omega, by omega, by omega, by omega, fun _ => by rw [C.2.2, w32_id (by omega) (by omega)]; omega, by omega⟩⟩, fun z => m_kindOf (d := d + 1) ok me mt.1 l1 c.1 c.2 (oT.1 x c.1 c.2) (q _ ⟨by omega, by omega, by omega, by omega, by omega, fun _ => rfl⟩)⟩
noncomputable def alkR (T : NL) (a b : Int) : Int := if ¬ ((0 ≤ a ∧ a < ln T) ∧ 0 ≤ b ∧ b < ln T) then -1001 else cb (alk T a b)
theorem x_alike (oT : okT E T) (ct : cTr T h) {a b : Int} (q : Q (alkR T a b) h) : Good g (d + 3) i9_alike [LR 9 4, LI a, LI b] S0 h S0 (retI Q) := by
  unfold alkR at q
  refine g9_alike (fun _ _ => v9_alike (f_has (d := d + 1) (by decide) ct.1.1 (bz (fun c => by rwa [if_pos (fun z => c z.1)] at q) (fun c => f_has (d := d + 1) (by decide) ct.1.1 (bn (fun c2 => f_areAlike NDs.tree ct.1 ct.2.1 oT.2.2.1 (by decide) c.1 c.2 c2.1 c2.2 (x_asInt (d := d + 1) (cb_01 _) ?_)) (fun c2 => by rwa [if_pos (fun z => c2 z.2)] at q))))))
  rwa [if_neg (not_not_intro ⟨c, c2⟩)] at q
theorem y_alike (oT : okT E T) (mt : mTr T h) {a b : Int} (q : Q (alkR T a b) h) : Good g (d + 3) i10_alike [LR 10 608, LI a, LI b] S0 h S0 (retI Q) := by
  unfold alkR at q
  refine g10_alike (fun _ _ => v10_alike (m_noNode (d := d) mt.1.1 oT.2.2.1 (bn (fun c => by rwa [if_pos (fun z => c z.1)] at q) (fun c => m_noNode (d := d) mt.1.1 oT.2.2.1 (bz (fun c2 => ?_) (fun c2 => by rwa [if_pos (fun z => c2 z.2)] at q))))))
  have c := Classical.not_not.mp c
  have c2 := Classical.not_not.mp c2
  rw [if_neg (not_not_intro ⟨c, c2⟩)] at q
  exact m_areAlike (d := d + 1) mt.1 oT.2.2.1 c.1 c.2 c2.1 c2.2 (bz (fun z => by rwa [cb_f z] at q) (fun z => by rwa [cb_t z] at q))
end
section
variable {g : Gl} {d : Nat} {h : Hp} {O : Int → Int} {m : Int} {Q : Int → Hp → Prop}
theorem x_out (co : cX 12 3000 O m h) {x : Int} (q : Q (byt O m x) h) : Good g (d + 2) i9_out [LR 9 4, LI x] S0 h S0 (retI Q) := by
  unfold byt at q
  exact g9_out (fun _ => v9_out (f_byteAt (by decide) rfl co (fun a b => by rwa [if_pos ⟨a, b⟩] at q) (fun a => by rwa [if_neg a] at q)))
theorem y_out (mo : mO O m h) {x : Int} (q : Q (byt O m x) h) : Good g (d + 2) i10_out [LR 10 608, LI x] S0 h S0 (retI Q) := by
  unfold byt at q
  obtain ⟨m1, m2, m3, m4⟩ := mo
  refine g10_out (fun _ => v10_out ?_)
  rw [m1, w32_id (by omega) (by omega)]
  refine m_in (bz (fun c => by rwa [if_neg (by omega)] at q) (fun c => ⟨by omega, by omega, ?_⟩))
  rw [if_pos (by omega)] at q
  rw [(m4 x (by omega) (by omega)).1]
  exact q
def bkN (m : Int) : Int := if 1000 ≤ m then 1000 else m
theorem x_back (co : cX 12 3000 O m h) (q : ∀ h' : Hp, cX 10 1000 O (bkN m) h' → (∀ a : Int, a ≠ 10 → a ≠ 11 → h' a = h a) → Q (bkN m) h') : Good g (d + 2) i9_back [LR 9 4] S0 h S0 (retI Q) := by
  obtain ⟨m1, m2, m3, m4⟩ := id co
  refine g9_back (v9_back (fun h1 k1 => ?_))
  have bn0 : 0 ≤ bkN m ∧ bkN m ≤ m ∧ bkN m ≤ 1000 := by unfold bkN; split <;> omega
  have lp : ∀ (r : Nat) (y : Int) (h2 : Hp) (B : Int → Int), 0 ≤ y → y + r = bkN m → cX 10 1000 B y h2 → (∀ i : Int, 0 ≤ i → i < y → B i = O i) → (∀ a : Int, a ≠ 10 → a ≠ 11 → h2 a = h a) → L0 g (d + 1) m9_back (retI Q) 10 [some (LR 9 4), some (LI y)] h2 := by
    intro r
    induction r with
    | zero =>
      intro y h2 B y0 hy X hB F
      have ey : y = bkN m := by omega
      have fin : Q (h2 10 1) h2 := by
        rw [X.1, ey]
        refine q h2 ⟨by rw [X.1, ey], bn0.1, bn0.2.2, fun i i0 i1 => ?_⟩ F
        have := X.2.2.2 i i0 (by omega)
        rw [hB i i0 (by omega)] at this
        exact this
      refine v9_back_10 ?_
      rw [F 12 (by decide) (by decide), m1]
      refine ⟨fun _ => fin, fun z => ⟨fun _ => fin, fun z2 => absurd ?_ z2⟩⟩
      unfold bkN at ey
      split at ey <;> omega
    | succ r ih =>
      intro y h2 B y0 hy X hB F
      have co2 : cX 12 3000 O m h2 := co.to (by rw [F 12 (by decide) (by decide)]) (F 13 (by decide) (by decide))
      refine v9_back_10 ?_
      rw [F 12 (by decide) (by decide), m1]
      refine ⟨fun z => absurd z (by omega), fun z => ⟨fun z2 => absurd z2 (by omega), fun z2 => f_byteAt (d := d) (by decide) rfl co2 (fun b0 b1 => ?_) (fun b => absurd ⟨y0, by omega⟩ b)⟩⟩
      have b := m4 y y0 b1
      refine f_add (d := d) (c := 1000) (by decide) rfl (by decide) X (by omega) b.2.1 b.2.2 (fun h3 X3 F3 => ?_)
      rw [w32_id (by omega) (by omega)]
      refine ih (y + 1) h3 _ (by omega) (by omega) X3 (fun i i0 i1 => ?_) (fun a a1 a2 => by rw [F3 a a1 (by omega)]; exact F a a1 a2)
      unfold push
      split
      · rename_i c; rw [c]
      · exact hB i i0 (by omega)
  exact lp (bkN m).toNat 0 h1 O (by decide) (by omega) ⟨by rw [k1, hup_at], by decide, by decide, fun i i0 i1 => by omega⟩ (fun _ _ _ => rfl) (fun a a1 _ => by rw [k1, hup_r a1])
theorem y_back (mo : mO O m h) (q : ∀ h' : Hp, mX O (bkN m) h' → (∀ a : Int, a ≠ 608 → a ≠ 613 → h' a = h a) → (∀ j : Int, j ≠ 7 → h' 608 j = h 608 j) → Q (bkN m) h') : Good g (d + 1) i10_back [LR 10 608] S0 h S0 (retI Q) := by
  obtain ⟨m1, m2, m3, m4⟩ := id mo
  have bn0 : 0 ≤ bkN m ∧ bkN m ≤ m ∧ bkN m ≤ 1000 := by unfold bkN; split <;> omega
  have lp : ∀ (r : Nat) (y : Int) (h2 : Hp), 0 ≤ y → y + r = bkN m → (∀ i : Int, 0 ≤ i → i < y → h2 613 i = O i) → (∀ a : Int, a ≠ 613 → h2 a = h a) → L0 g d m10_back (retI Q) 23 [some (LR 10 608), some (LI (bkN m)), some (LI y)] h2 := by
    intro r
    induction r with
    | zero =>
      intro y h2 y0 hy R F
      refine v10_back_23 ⟨fun _ h3 k3 => q h3 ⟨by rw [k3, hup_at], bn0.1, bn0.2.2, fun i i0 i1 => ?_⟩ (fun a a1 a2 => by rw [k3, hup_r a1]; exact F a a2) (fun j hj => by rw [k3, hup_nj hj, F 608 (by decide)]), fun z => absurd (by omega) z⟩
      have b := m4 i i0 (by omega)
      rw [k3, hup_r (by decide), R i i0 (by omega), (w8_eq (by omega) (by omega) (by omega) (by omega)).mpr rfl]
      exact ⟨rfl, by omega, by omega⟩
    | succ r ih =>
      intro y h2 y0 hy R F
      have b := m4 y y0 (by omega)
      have e : h2 660 y = O y := by rw [F 660 (by decide)]; exact b.1
      refine v10_back_23 ?_
      rw [e, w32_id (by omega) (by omega)]
      refine ⟨fun z => absurd z (by omega), fun z => ⟨y0, by omega, by omega, ⟨by omega, by omega⟩, fun h3 k3 => ih (y + 1) h3 (by omega) (by omega) (fun i i0 i1 => ?_) (fun a ha => by rw [k3, hup_r ha]; exact F a ha)⟩⟩
      by_cases ci : i = y
      · rw [k3, ci, hup_at]
      · rw [k3, hup_nj ci]
        exact R i i0 (by omega)
  refine g10_back (v10_back ?_)
  rw [m1]
  have X := lp (bkN m).toNat 0 h (by decide) (by omega) (fun i i0 i1 => by omega) (fun _ _ => rfl)
  unfold bkN at X
  refine ⟨fun z => ?_, fun z => ?_⟩
  · rwa [if_pos z] at X
  · rwa [if_neg z] at X
end
