/-! CLASH, pure: two patterns have a tree in common -/
theorem lie_0 {E : Ev} (ok : okE E) {b : Int} : lie E 0 b ↔ b = 0 := by
  rw [lie_s ok (Int.le_refl 0) (by have := ok.1; omega)]
  constructor
  · intro z; omega
  · intro z; exact Or.inl z.symm
theorem lie_cmp {E : Ev} (ok : okE E) : ∀ (n : Nat) (k a b : Int), k ≤ n → 0 ≤ k → k < E 0 0 → lie E k a → lie E k b → lie E a b ∨ lie E b a
  | n, k, a, b, hn, k0, k1, ha, hb => by
    by_cases ea : k = a
    · rw [← ea]; exact Or.inl hb
    by_cases eb : k = b
    · rw [← eb]; exact Or.inr ha
    have za := ((lie_s ok k0 k1).mp ha).resolve_left ea
    have zb := ((lie_s ok k0 k1).mp hb).resolve_left eb
    have hu := ok.2.2.2.2.1 k za.1 k1
    match n, hn with
    | 0, hn => omega
    | n + 1, hn => exact lie_cmp ok n (E 1 k) a b (by omega) hu.1 (by omega) za.2 zb.2
theorem lie_tr {E : Ev} (ok : okE E) : ∀ (n : Nat) (k a b : Int), k ≤ n → 0 ≤ k → k < E 0 0 → lie E k a → lie E a b → lie E k b
  | n, k, a, b, hn, k0, k1, ha, hb => by
    by_cases ea : k = a
    · rw [ea]; exact hb
    have za := ((lie_s ok k0 k1).mp ha).resolve_left ea
    have hu := ok.2.2.2.2.1 k za.1 k1
    match n, hn with
    | 0, hn => omega
    | n + 1, hn => exact (lie_s ok k0 k1).mpr (Or.inr ⟨za.1, lie_tr ok n (E 1 k) a b (by omega) hu.1 (by omega) za.2 hb⟩)
theorem lie_rf {E : Ev} (ok : okE E) {k : Int} (k0 : 0 ≤ k) (k1 : k < E 0 0) : lie E k k := (lie_s ok k0 k1).mpr (Or.inl rfl)
/-- some head is under a kind; under two -/
def hsb (E : Ev) (k : Int) : Prop := ∃ j : Int, 0 ≤ j ∧ j < E 0 1 ∧ lie E (E 2 j) k
def hhd (E : Ev) (a b : Int) : Prop := ∃ j : Int, 0 ≤ j ∧ j < E 0 1 ∧ lie E (E 2 j) a ∧ lie E (E 2 j) b
/-- a number is in both spans -/
def spx (L R : NL) (i j : Int) : Prop := ∃ x : Int, (nd L i 4 = 0 ∨ (nd L i 5 ≤ x ∧ x ≤ nd L i 6)) ∧ (nd R j 4 = 0 ∨ (nd R j 5 ≤ x ∧ x ≤ nd R j 6))
/-- two holes have a node in common -/
def hA (E : Ev) (L R : NL) (i j : Int) : Prop := (nd L i 2 = 0 ∧ nd R j 2 = 0 ∧ spx L R i j) ∨ (nd L i 4 = 0 ∧ nd R j 4 = 0 ∧ hhd E (nd L i 2) (nd R j 2))
/-- a hole of L takes a node of R with all below -/
def hT (E : Ev) (L R : NL) (i j : Int) : Prop := fh E L R i j ∧ ∀ x : Int, j ≤ x → x < j + sz R j → nd R x 0 = 2 → hA E R R x x
def aG (E : Ev) (L R : NL) (i j : Int) : Prop := (nd L i 0 = 2 ∧ nd R j 0 = 2 ∧ hA E L R i j) ∨ (nd L i 0 = 2 ∧ nd R j 0 ≠ 2 ∧ hT E L R i j) ∨ (nd L i 0 ≠ 2 ∧ nd R j 0 = 2 ∧ hT E R L j i) ∨ (nd L i 0 ≠ 2 ∧ nd R j 0 ≠ 2 ∧ nd L i 1 = nd R j 1 ∧ nd L i 5 = nd R j 5)
def mt (E : Ev) (L R : NL) : Nat → Int → Int → Prop
  | 0, _, _ => True
  | m + 1, i, j => ln L ≤ i ∨ (aG E L R i j ∧ if nd L i 0 = 0 ∧ nd R j 0 = 0 then mt E L R m (i + 1) (j + 1) else mt E L R m (i + sz L i) (j + sz R j))
theorem hA_n {E : Ev} (ok : okE E) {L R : NL} {i j : Int} (n1 : ¬ lie E (nd L i 2) (nd R j 2)) (n2 : ¬ lie E (nd R j 2) (nd L i 2)) : ¬ hA E L R i j := by
  intro w
  rcases w with ⟨a, b, _⟩ | ⟨_, _, x, x0, x1, x2, x3⟩
  · rw [a, b] at n1
    exact n1 ((lie_0 ok).mpr rfl)
  · have o := ok.2.2.2.2.2 x x0 x1
    exact (lie_cmp ok (E 2 x).toNat (E 2 x) _ _ (by omega) o.1 o.2.1 x2 x3).elim n1 n2
theorem hA_l {E : Ev} (ok : okE E) {L R : NL} {i j l : Int} (hl : (l = nd L i 2 ∧ lie E (nd L i 2) (nd R j 2)) ∨ (l = nd R j 2 ∧ lie E (nd R j 2) (nd L i 2))) : hA E L R i j ↔ (l = 0 ∧ spx L R i j) ∨ (nd L i 4 = 0 ∧ nd R j 4 = 0 ∧ hsb E l) := by
  unfold hA
  constructor
  · rintro (⟨a, b, c⟩ | ⟨a, b, x, x0, x1, x2, x3⟩)
    · exact Or.inl ⟨by omega, c⟩
    · refine Or.inr ⟨a, b, x, x0, x1, ?_⟩
      rcases hl with z | z
      · rw [z.1]; exact x2
      · rw [z.1]; exact x3
  · rintro (⟨a, c⟩ | ⟨a, b, x, x0, x1, x2⟩)
    · refine Or.inl ?_
      rcases hl with z | z
      · have e : nd L i 2 = 0 := by omega
        have zz := z.2
        rw [e] at zz
        exact ⟨e, (lie_0 ok).mp zz, c⟩
      · have e : nd R j 2 = 0 := by omega
        have zz := z.2
        rw [e] at zz
        exact ⟨(lie_0 ok).mp zz, e, c⟩
    · have o := ok.2.2.2.2.2 x x0 x1
      refine Or.inr ⟨a, b, x, x0, x1, ?_⟩
      rcases hl with z | z
      · rw [z.1] at x2
        exact ⟨x2, lie_tr ok (E 2 x).toNat _ _ _ (by omega) o.1 o.2.1 x2 z.2⟩
      · rw [z.1] at x2
        exact ⟨lie_tr ok (E 2 x).toNat _ _ _ (by omega) o.1 o.2.1 x2 z.2, x2⟩
theorem sz_one {L : NL} {i : Int} (i0 : 0 ≤ i) (i1 : i < ln L) (e : nd L i 7 = 0) : sz L i = 1 := by
  unfold sz
  rw [nd_drop i0 i1]
  simp only [tl]
  rw [e]
  simp [tl_0]
/-- both stand ahead of equally many trees -/
def MI2 (L R : NL) (i j : Int) : Prop := 0 ≤ i ∧ 0 ≤ j ∧ ∃ r : Nat, wf (L.drop i.toNat) r ∧ wf (R.drop j.toNat) r
theorem MI2.r {L R : NL} {i j : Int} (H : MI2 L R i j) (i1 : i < ln L) : j < ln R := by
  obtain ⟨i0, j0, r, w1, w2⟩ := H
  rw [nd_drop i0 i1] at w1
  cases r with
  | zero => exact w1.elim
  | succ r =>
    apply Classical.byContradiction
    intro z
    have : R.drop j.toNat = [] := List.drop_eq_nil_of_le (by unfold ln at z; omega)
    rw [this] at w2
    exact absurd (show r + 1 = 0 from w2) (by omega)
theorem MI2.o {L R : NL} {i j : Int} (H : MI2 L R i j) (i1 : i < ln L) : MI2 L R (i + sz L i) (j + sz R j) := by
  have j1 := H.r i1
  obtain ⟨i0, j0, r, w1, w2⟩ := H
  have w1' := w1
  rw [nd_drop i0 i1] at w1
  cases r with
  | zero => exact w1.elim
  | succ r =>
    have a := wf_skp (L.drop i.toNat) 1 r (by rw [Nat.add_comm]; exact w1')
    have b := wf_skp (R.drop j.toNat) 1 r (by rw [Nat.add_comm]; exact w2)
    rw [List.drop_drop] at a b
    have ea : i.toNat + tl (L.drop i.toNat) 1 = (i + sz L i).toNat := by unfold sz; omega
    have eb : j.toNat + tl (R.drop j.toNat) 1 = (j + sz R j).toNat := by unfold sz; omega
    rw [ea] at a
    rw [eb] at b
    have := sz_pos i0 i1
    have := sz_pos j0 j1
    exact ⟨by omega, by omega, r, a, b⟩
theorem MI2.s {E : Ev} {L R : NL} {i j : Int} (H : MI2 L R i j) (i1 : i < ln L) (oL : okN E (nd L i)) (oR : okN E (nd R j)) (z1 : nd L i 0 = 0) (z2 : nd R j 0 = 0) (e : nd L i 1 = nd R j 1) : MI2 L R (i + 1) (j + 1) := by
  have j1 := H.r i1
  obtain ⟨i0, j0, r, w1, w2⟩ := H
  rw [nd_drop i0 i1] at w1
  rw [nd_drop j0 j1] at w2
  cases r with
  | zero => exact w1.elim
  | succ r =>
    have w1 : wf (L.drop (i.toNat + 1)) ((nd L i 7).toNat + r) := w1
    have w2 : wf (R.drop (j.toNat + 1)) ((nd R j 7).toNat + r) := w2
    have e7 : nd R j 7 = nd L i 7 := by
      rcases oL with o | o | o | o
      · rcases oR with u | u | u | u
        · rw [u.2.2.2.2.2.2.2.2.1, o.2.2.2.2.2.2.2.2.1, e]
        all_goals omega
      all_goals omega
    rw [e7] at w2
    refine ⟨by omega, by omega, (nd L i 7).toNat + r, ?_, ?_⟩
    · rw [show (i + 1).toNat = i.toNat + 1 by omega]; exact w1
    · rw [show (j + 1).toNat = j.toNat + 1 by omega]; exact w2
/-! CLASH, the class -/
section
variable {g : Gl} {d : Nat} {h : Hp} {E : Ev} {L R : NL} {Q : Int → Hp → Prop}
theorem f_someHead (ok : okE E) (ce : cE E h) {k : Int} (q : Q (cb (hsb E k)) h) : Good g (d + 3) i2_someHeadBelow [LR 2 5, LI k] S0 h S0 (retI Q) := by
  have o3 := ok.2.2.1
  have o4 := ok.2.2.2.1
  have e5 := ce.2.1
  have lp : ∀ (m : Nat) (y : Int), 0 ≤ y → y + m = E 0 1 → (∀ j : Int, 0 ≤ j → j < y → ¬ lie E (E 2 j) k) → L0 g (d + 2) m2_someHeadBelow (retI Q) 2 [some (LR 2 5), some (LI k), some (LI y)] h := by
    intro m
    induction m with
    | zero =>
      intro y y0 hy hn
      refine v2_someHeadBelow_2 ⟨fun _ => ?_, fun z => absurd (by omega) z⟩
      rwa [cb_f (fun ⟨j, j0, j1, j2⟩ => hn j j0 (by omega) j2)] at q
    | succ m ih =>
      intro y y0 hy hn
      have oj := ok.2.2.2.2.2 y y0 (by omega)
      refine v2_someHeadBelow_2 ⟨fun z => absurd z (by omega), fun _ => ⟨y0, by omega, ?_⟩⟩
      rw [(ce.2.2.2.2 y y0 (by omega)).1]
      refine f_isBelow ok ce oj.1 oj.2.1 (bz (fun c => ?_) (fun c => ?_))
      · rw [w32_id (by omega) (by omega)]
        refine ih (y + 1) (by omega) (by omega) (fun j j0 j1 => ?_)
        by_cases e : j = y
        · rw [e]; exact c
        · exact hn j j0 (by omega)
      · rwa [cb_t (p := hsb E k) ⟨y, y0, by omega, c⟩] at q
  exact g2_someHeadBelow (fun _ => v2_someHeadBelow (lp (E 0 1).toNat 0 (Int.le_refl _) (by omega) (fun j j0 j1 => by omega)))
theorem f_holesAgree (ok : okE E) (ce : cE E h) {n m c c2 : Int} (nw : NDs g n c) (cn : cN n L h) (lc : ln L ≤ c) (nw2 : NDs g m c2) (cn2 : cN m R h) (lc2 : ln R ≤ c2) {i j : Int} (i0 : 0 ≤ i) (i1 : i < ln L) (j0 : 0 ≤ j) (j1 : j < ln R) (oi : okN E (nd L i)) (oj : okN E (nd R j)) (q : Q (cb (hA E L R i j)) h) : Good g (d + 4) i4_holesAgree [LR 4 605, LR 5 n, LI i, LR 5 m, LI j] S0 h S0 (retI Q) := by
  obtain ⟨n0, n1, n2, n3, n4, n5, n6, n7, n8, n9⟩ := id nw
  obtain ⟨m0, m1, m2, m3, m4, m5, m6, m7, m8, m9⟩ := id nw2
  obtain ⟨c1, c2', c3, c4, c5, c6, c7⟩ := cn.2 i i0 i1
  obtain ⟨b1, b2, b3, b4, b5, b6, b7⟩ := cn2.2 j j0 j1
  have ki := oi.p2 ok
  have kj := oj.p2 ok
  have fin : ∀ l y : Int, ((l = nd L i 2 ∧ lie E (nd L i 2) (nd R j 2)) ∨ (l = nd R j 2 ∧ lie E (nd R j 2) (nd L i 2))) → (¬ nd L i 4 = 0 ∨ ¬ nd R j 4 = 0) → (spx L R i j ↔ (nd L i 4 = 0 ∨ (nd L i 5 ≤ y ∧ y ≤ nd L i 6)) ∧ (nd R j 4 = 0 ∨ (nd R j 5 ≤ y ∧ y ≤ nd R j 6))) → L0 g (d + 3) m4_holesAgree (retI Q) 177 [none, some (LR 5 n), some (LI i), some (LR 5 m), some (LI j), none, some (LI l), some (LL y), none] h := by
    intro l y hl hs hx
    rw [cb_c (hA_l ok hl)] at q
    refine v4_holesAgree_177 n0 m0 ⟨fun z => ?_, fun z => f_spanHolds nw cn lc i0 i1 (bz (fun z2 => ?_) (fun z2 => f_spanHolds nw2 cn2 lc2 j0 j1 (bz (fun z3 => ?_) (fun z3 => ?_))))⟩
    · rwa [cb_f (fun w => w.elim (fun w => z w.1) (fun ⟨w1, w2, _⟩ => by omega))] at q
    · rwa [cb_f (fun w => w.elim (fun w => z2 (hx.mp w.2).1) (fun ⟨w1, w2, _⟩ => by omega))] at q
    · rwa [cb_f (fun w => w.elim (fun w => z3 (hx.mp w.2).2) (fun ⟨w1, w2, _⟩ => by omega))] at q
    · rwa [cb_t (Or.inl ⟨z, hx.mpr ⟨z2, z3⟩⟩)] at q
  have at117 : ∀ l : Int, ((l = nd L i 2 ∧ lie E (nd L i 2) (nd R j 2)) ∨ (l = nd R j 2 ∧ lie E (nd R j 2) (nd L i 2))) → (¬ nd L i 4 = 0 ∨ ¬ nd R j 4 = 0) → L0 g (d + 3) m4_holesAgree (retI Q) 117 [none, some (LR 5 n), some (LI i), some (LR 5 m), some (LI j), none, some (LI l), none, none] h := by
    intro l hl hs
    refine v4_holesAgree_117 n0 m0 ?_
    rw [c5, c6, b5, b6, n5, n6, m5, m6]
    refine ⟨i0, by omega, fun _ => ⟨fun z => ⟨j0, by omega, fin l _ hl hs ?_⟩, fun z => ⟨by omega, j0, by omega, fun _ => ⟨fun z2 => fin l _ hl hs ?_, fun z2 => ⟨by omega, fin l _ hl hs ?_⟩⟩⟩⟩⟩
    · exact ⟨fun ⟨x, a, b⟩ => by omega, fun w => ⟨_, w⟩⟩
    · exact ⟨fun ⟨x, a, b⟩ => by omega, fun w => ⟨_, w⟩⟩
    · exact ⟨fun ⟨x, a, b⟩ => by omega, fun w => ⟨_, w⟩⟩
  have at52a : ∀ y5 : Int, lie E (nd L i 2) (nd R j 2) → ¬ y5 = 0 → L0 g (d + 3) m4_holesAgree (retI Q) 52 [some (LR 4 605), some (LR 5 n), some (LI i), some (LR 5 m), some (LI j), some (LI y5), none, none, none] h := by
    intro y5 hl hy
    refine v4_holesAgree_52 n0 m0 ⟨fun z => absurd z hy, fun _ => ?_⟩
    rw [c3, c5, b5, n3, n5, m5]
    have q' := q
    rw [cb_c (hA_l ok (Or.inl ⟨rfl, hl⟩))] at q'
    refine ⟨i0, by omega, by omega, fun _ => ⟨fun z => at117 _ (Or.inl ⟨rfl, hl⟩) (Or.inl z), fun z => ⟨j0, by omega, fun _ => ⟨fun z2 => at117 _ (Or.inl ⟨rfl, hl⟩) (Or.inr z2), fun z2 => ⟨fun z3 => ?_, fun z3 => f_someHead ok ce (bz (fun z4 => ?_) (fun z4 => ?_))⟩⟩⟩⟩⟩
    · rwa [cb_t (Or.inl ⟨z3, 0, Or.inl z, Or.inl z2⟩)] at q'
    · rwa [cb_f (fun w => w.elim (fun w => z3 w.1) (fun w => z4 w.2.2))] at q'
    · rwa [cb_t (Or.inr ⟨z, z2, z4⟩)] at q'
  have at52b : ∀ y5 : Int, lie E (nd R j 2) (nd L i 2) → y5 = 0 → L0 g (d + 3) m4_holesAgree (retI Q) 52 [some (LR 4 605), some (LR 5 n), some (LI i), some (LR 5 m), some (LI j), some (LI y5), none, none, none] h := by
    intro y5 hl hy
    refine v4_holesAgree_52 n0 m0 ⟨fun _ => ?_, fun z => absurd hy z⟩
    rw [b3, c5, b5, m3, n5, m5]
    have q' := q
    rw [cb_c (hA_l ok (Or.inr ⟨rfl, hl⟩))] at q'
    refine ⟨j0, by omega, i0, by omega, fun _ => ⟨fun z => at117 _ (Or.inr ⟨rfl, hl⟩) (Or.inl z), fun z => ⟨by omega, fun _ => ⟨fun z2 => at117 _ (Or.inr ⟨rfl, hl⟩) (Or.inr z2), fun z2 => ⟨fun z3 => ?_, fun z3 => f_someHead ok ce (bz (fun z4 => ?_) (fun z4 => ?_))⟩⟩⟩⟩⟩
    · rwa [cb_t (Or.inl ⟨z3, 0, Or.inl z, Or.inl z2⟩)] at q'
    · rwa [cb_f (fun w => w.elim (fun w => z3 w.1) (fun w => z4 w.2.2))] at q'
    · rwa [cb_t (Or.inr ⟨z, z2, z4⟩)] at q'
  refine g4_holesAgree (fun _ _ _ _ => v4_holesAgree n0 m0 ?_)
  rw [c3, b3, n3, m3]
  refine ⟨i0, by omega, j0, by omega, f_isBelow (d := d + 1) ok ce ki.1 ki.2 (bn (fun z => at52a _ z (by rw [cb_t z]; decide)) (fun z => ?_))⟩
  rw [c3, b3]
  refine f_isBelow (d := d + 1) ok ce kj.1 kj.2 (bn (fun z2 => at52b _ z2 (cb_f z)) (fun z2 => ?_))
  rwa [cb_f (hA_n ok z z2)] at q
theorem f_holeTakes (ok : okE E) (ce : cE E h) {n m c c2 : Int} (nw : NDs g n c) (cn : cN n L h) (lc : ln L ≤ c) (nw2 : NDs g m c2) (cn2 : cN m R h) (cs2 : cS m R h) (lc2 : ln R ≤ c2) (lm2 : c2 ≤ 1000) {i j : Int} (i0 : 0 ≤ i) (i1 : i < ln L) (j0 : 0 ≤ j) (j1 : j < ln R) (oi : okN E (nd L i)) (oR : okL E R) (q : Q (cb (hT E L R i j)) h) : Good g (d + 5) i4_holeTakes [LR 4 605, LR 5 n, LI i, LR 5 m, LI j] S0 h S0 (retI Q) := by
  obtain ⟨m0, m1, m2, m3, m4, m5, m6, m7, m8, m9⟩ := id nw2
  have sl := sz_le j0 j1
  have sp := sz_pos j0 j1
  refine g4_holeTakes (fun _ _ _ _ => v4_holeTakes nw.1 m0 (f_fitsHole (d := d + 1) ok ce nw2 cn2 lc2 nw cn lc j0 j1 i0 i1 (oR j j0 j1) (by rcases oi with o | o | o | o <;> omega) (bn (fun c => ?_) (fun c => ?_))))
  · have lp : ∀ (k : Nat) (y : Int), j ≤ y → y + k = j + sz R j → (∀ x : Int, j ≤ x → x < y → nd R x 0 = 2 → hA E R R x x) → L0 g (d + 4) m4_holeTakes (retI Q) 21 [some (LR 4 605), none, none, some (LR 5 m), some (LI j), some (LI y)] h := by
      intro k
      induction k with
      | zero =>
        intro y y0 hy hn
        refine v4_holeTakes_21 m0 ?_
        rw [cs2 j j0 j1, m9, w32_id (by omega) (by omega)]
        refine ⟨j0, by omega, fun _ => ?_, fun z => absurd (by omega) z⟩
        rwa [cb_t (p := hT E L R i j) ⟨c, fun x x0 x1 => hn x x0 (by omega)⟩] at q
      | succ k ih =>
        intro y y0 hy hn
        have oy := oR y (by omega) (by omega)
        have more : (nd R y 0 = 2 → hA E R R y y) → L0 g (d + 4) m4_holeTakes (retI Q) 21 [some (LR 4 605), none, none, some (LR 5 m), some (LI j), some (LI (y + 1))] h := fun w => ih (y + 1) (by omega) (by omega) (fun x x0 x1 => by
          by_cases e : x = y
          · rw [e]; exact w
          · exact hn x x0 (by omega))
        refine v4_holeTakes_21 m0 ?_
        rw [cs2 j j0 j1, m9, m1, w32_id (x := j + sz R j) (by omega) (by omega), w32_id (x := y + 1) (by omega) (by omega), (cn2.2 y (by omega) (by omega)).1]
        refine ⟨j0, by omega, fun z => absurd z (by omega), fun _ => ⟨by omega, by omega, fun z => more (fun w => absurd w z), fun z => f_holesAgree ok ce nw2 cn2 lc2 nw2 cn2 lc2 (by omega) (by omega) (by omega) (by omega) oy oy (bn (fun w => more (fun _ => w)) (fun w => ?_))⟩⟩
        rwa [cb_f (p := hT E L R i j) (fun v => w (v.2 y y0 (by omega) z))] at q
    exact lp (sz R j).toNat j (Int.le_refl _) (by omega) (fun x x0 x1 => by omega)
  · rwa [cb_f (p := hT E L R i j) (fun v => c v.1)] at q
theorem f_agree (ok : okE E) (ce : cE E h) {n m c c2 : Int} (nw : NDs g n c) (cn : cN n L h) (cs : cS n L h) (lc : ln L ≤ c) (lm : c ≤ 1000) (nw2 : NDs g m c2) (cn2 : cN m R h) (cs2 : cS m R h) (lc2 : ln R ≤ c2) (lm2 : c2 ≤ 1000) {i j : Int} (i0 : 0 ≤ i) (i1 : i < ln L) (j0 : 0 ≤ j) (j1 : j < ln R) (oL : okL E L) (oR : okL E R) (q : Q (cb (aG E L R i j)) h) : Good g (d + 6) i4_agree [LR 4 605, LR 5 n, LI i, LR 5 m, LI j] S0 h S0 (retI Q) := by
  obtain ⟨n0, n1, n2, n3, n4, n5, n6, n7, n8, n9⟩ := id nw
  obtain ⟨m0, m1, m2, m3, m4, m5, m6, m7, m8, m9⟩ := id nw2
  obtain ⟨c1, c2', c3, c4, c5, c6, c7⟩ := cn.2 i i0 i1
  obtain ⟨b1, b2, b3, b4, b5, b6, b7⟩ := cn2.2 j j0 j1
  refine g4_agree (fun _ _ _ _ => v4_agree n0 m0 ?_)
  rw [c1, c2', c6, b1, b2, b6, n1, n2, n6, m1, m2, m6]
  simp only [lc_eq]
  unfold aG at q
  refine ⟨i0, by omega, fun z => ⟨j0, by omega, fun z2 => ⟨by omega, by omega, fun z3 => ?_, fun z3 => ⟨by omega, by omega, fun z4 => ?_, fun z4 => ?_⟩⟩, fun z2 => ?_⟩, fun z => ⟨j0, by omega, fun z2 => ?_, fun z2 => ?_⟩⟩
  · rwa [cb_f (fun w => by rcases w with ⟨a, _⟩ | ⟨a, _⟩ | ⟨_, a, _⟩ | ⟨_, _, a, _⟩ <;> contradiction)] at q
  · rwa [cb_f (fun w => by rcases w with ⟨a, _⟩ | ⟨a, _⟩ | ⟨_, a, _⟩ | ⟨_, _, _, a⟩ <;> contradiction)] at q
  · rwa [cb_t (Or.inr (Or.inr (Or.inr ⟨z, z2, z3, z4⟩)))] at q
  · refine f_holeTakes ok ce nw2 cn2 lc2 nw cn cs lc lm j0 j1 i0 i1 (oR j j0 j1) oL ⟨cb_01 _, ?_⟩
    rwa [cb_c (show _ ↔ hT E R L j i from ⟨fun w => by rcases w with ⟨a, _⟩ | ⟨a, _⟩ | ⟨_, _, a⟩ | ⟨_, a, _⟩ <;> first | contradiction | exact a, fun w => Or.inr (Or.inr (Or.inl ⟨z, z2, w⟩))⟩)] at q
  · refine f_holeTakes ok ce nw cn lc nw2 cn2 cs2 lc2 lm2 i0 i1 j0 j1 (oL i i0 i1) oR ⟨cb_01 _, ?_⟩
    rwa [cb_c (show _ ↔ hT E L R i j from ⟨fun w => by rcases w with ⟨_, a, _⟩ | ⟨_, _, a⟩ | ⟨a, _⟩ | ⟨a, _⟩ <;> first | contradiction | exact a, fun w => Or.inr (Or.inl ⟨z, z2, w⟩)⟩)] at q
  · refine f_holesAgree ok ce nw cn lc nw2 cn2 lc2 i0 i1 j0 j1 (oL i i0 i1) (oR j j0 j1) ⟨cb_01 _, ?_⟩
    rwa [cb_c (show _ ↔ hA E L R i j from ⟨fun w => by rcases w with ⟨_, _, a⟩ | ⟨_, a, _⟩ | ⟨a, _⟩ | ⟨a, _⟩ <;> first | contradiction | exact a, fun w => Or.inl ⟨z, z2, w⟩⟩)] at q
theorem f_common (ok : okE E) (ce : cE E h) {n m c c2 : Int} (nw : NDs g n c) (cn : cN n L h) (cs : cS n L h) (lc : ln L ≤ c) (lm : c ≤ 1000) (nw2 : NDs g m c2) (cn2 : cN m R h) (cs2 : cS m R h) (lc2 : ln R ≤ c2) (lm2 : c2 ≤ 1000) (oL : okL E L) (oR : okL E R) (wL : wf L 1) (wR : wf R 1) (q : Q (cb (mt E L R (ln L).toNat 0 0)) h) : Good g (d + 7) i4_haveTreeInCommon [LR 4 605, LR 5 n, LR 5 m] S0 h S0 (retI Q) := by
  obtain ⟨n0, n1, n2, n3, n4, n5, n6, n7, n8, n9⟩ := id nw
  obtain ⟨m0, m1, m2, m3, m4, m5, m6, m7, m8, m9⟩ := id nw2
  have lp : ∀ (k : Nat) (i j : Int), MI2 L R i j → ln L ≤ i + k → Q (cb (mt E L R k i j)) h → L0 g (d + 6) m4_haveTreeInCommon (retI Q) 5 [some (LR 4 605), some (LR 5 n), some (LR 5 m), some (LI i), some (LI j), none] h := by
    intro k
    induction k with
    | zero =>
      intro i j H hi q
      refine v4_haveTreeInCommon_5 n0 m0 ?_
      rw [cn.1]
      refine ⟨fun _ => ?_, fun z => absurd (by omega) z⟩
      rwa [cb_t (p := mt E L R 0 i j) trivial] at q
    | succ k ih =>
      intro i j H hi q
      refine v4_haveTreeInCommon_5 n0 m0 ?_
      rw [cn.1, cn2.1]
      refine ⟨fun z => ?_, fun z => ?_⟩
      · rwa [cb_t (p := mt E L R (k + 1) i j) (Or.inl z)] at q
      have i1 : i < ln L := by omega
      have j1 := H.r i1
      have i0 := H.1
      have j0 := H.2.1
      have si := sz_le i0 i1
      have sj := sz_le j0 j1
      have pi := sz_pos i0 i1
      have pj := sz_pos j0 j1
      refine ⟨fun z2 => absurd z2 (by omega), fun _ => f_agree ok ce nw cn cs lc lm nw2 cn2 cs2 lc2 lm2 i0 i1 j0 j1 oL oR (bn (fun w => ?_) (fun w => ?_))⟩
      · rw [(cn.2 i i0 i1).1, (cn2.2 j j0 j1).1, cs i i0 i1, cs2 j j0 j1, n1, m1, n9, m9, w32_id (x := i + sz L i) (by omega) (by omega), w32_id (x := j + sz R j) (by omega) (by omega), w32_id (x := i + 1) (by omega) (by omega), w32_id (x := j + 1) (by omega) (by omega)]
        have over : ¬ (nd L i 0 = 0 ∧ nd R j 0 = 0) → L0 g (d + 6) m4_haveTreeInCommon (retI Q) 5 [some (LR 4 605), some (LR 5 n), some (LR 5 m), some (LI (i + sz L i)), some (LI (j + sz R j)), none] h := fun v => by
          refine ih _ _ (H.o i1) (by omega) ?_
          rwa [cb_c (show mt E L R (k + 1) i j ↔ mt E L R k (i + sz L i) (j + sz R j) from ⟨fun u => by
            rcases u with u | u
            · omega
            · have := u.2; rwa [if_neg v] at this, fun u => Or.inr ⟨w, by rw [if_neg v]; exact u⟩⟩)] at q
        refine ⟨i0, by omega, fun y => ⟨by omega, j0, by omega, over (fun v => y v.1)⟩, fun y => ⟨j0, by omega, fun y2 => ⟨by omega, by omega, over (fun v => y2 v.2)⟩, fun y2 => ?_⟩⟩
        have e1 : nd L i 1 = nd R j 1 := by rcases w with ⟨a, _⟩ | ⟨a, _⟩ | ⟨_, a, _⟩ | ⟨_, _, a, _⟩ <;> first | omega | exact a
        refine ih _ _ (H.s i1 (oL i i0 i1) (oR j j0 j1) y y2 e1) (by omega) ?_
        rwa [cb_c (show mt E L R (k + 1) i j ↔ mt E L R k (i + 1) (j + 1) from ⟨fun u => by
            rcases u with u | u
            · omega
            · have := u.2; rwa [if_pos ⟨y, y2⟩] at this, fun u => Or.inr ⟨w, by rw [if_pos ⟨y, y2⟩]; exact u⟩⟩)] at q
      · rwa [cb_f (p := mt E L R (k + 1) i j) (fun u => u.elim (fun u => by omega) (fun u => w u.1))] at q
  have l0 := ln_nn L
  exact g4_haveTreeInCommon (fun _ _ => v4_haveTreeInCommon n0 m0 (lp _ 0 0 ⟨by decide, by decide, 1, wL, wR⟩ (by omega) q))
end
