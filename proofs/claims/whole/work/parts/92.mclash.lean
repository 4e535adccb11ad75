/-! CLASH, the model; the call on both sides -/
section
variable {g : Gl} {d : Nat} {h : Hp} {E : Ev} {L R : NL} {P : Ps} {Q : Int → Hp → Prop}
theorem m_hasHead (ok : okE E) (me : mE E h) {a b : Int} (q : Q (cb (hhd E a b)) h) : Good g (d + 2) i10_hasHead [LR 10 608, LI a, LI b] S0 h S0 (retI Q) := by
  have o3 := ok.2.2.1
  have o4 := ok.2.2.2.1
  have e2 := me.2.1
  have lp : ∀ (m : Nat) (y : Int) (s : Prop), 0 ≤ y → y + m = E 0 1 → (s ↔ ∃ j : Int, 0 ≤ j ∧ j < y ∧ lie E (E 2 j) a ∧ lie E (E 2 j) b) → L0 g (d + 1) m10_hasHead (retI Q) 5 [some (LR 10 608), some (LI a), some (LI b), some (LI (cb s)), some (LI y)] h := by
    intro m
    induction m with
    | zero =>
      intro y s y0 hy hs
      refine v10_hasHead_5 ⟨fun _ => ⟨cb_01 s, ?_⟩, fun z => absurd (by omega) z⟩
      rwa [cb_c (show hhd E a b ↔ s from ⟨fun ⟨j, j0, j1, j2⟩ => hs.mpr ⟨j, j0, by omega, j2⟩, fun w => by
        obtain ⟨j, j0, j1, j2⟩ := hs.mp w
        exact ⟨j, j0, by omega, j2⟩⟩)] at q
    | succ m ih =>
      intro y s y0 hy hs
      have oj := ok.2.2.2.2.2 y y0 (by omega)
      have e10 := (me.2.2.2 y y0 (by omega)).1
      have yes : (∃ j : Int, 0 ≤ j ∧ j < y + 1 ∧ lie E (E 2 j) a ∧ lie E (E 2 j) b) → L0 g (d + 1) m10_hasHead (retI Q) 5 [some (LR 10 608), some (LI a), some (LI b), some (LI 1), some (LI (y + 1))] h := fun w => by
        have := ih (y + 1) True (by omega) (by omega) ⟨fun _ => w, fun _ => trivial⟩
        rwa [cb_t trivial] at this
      have no : ¬ s → ¬ (lie E (E 2 y) a ∧ lie E (E 2 y) b) → L0 g (d + 1) m10_hasHead (retI Q) 5 [some (LR 10 608), some (LI a), some (LI b), some (LI 0), some (LI (y + 1))] h := fun w w2 => by
        have := ih (y + 1) False (by omega) (by omega) ⟨fun z => z.elim, fun ⟨j, j0, j1, j2⟩ => by
          by_cases e : j = y
          · rw [e] at j2; exact w2 j2
          · exact w (hs.mpr ⟨j, j0, by omega, j2⟩)⟩
        rwa [cb_f id] at this
      refine v10_hasHead_5 ?_
      rw [w32_id (x := y + 1) (by omega) (by omega), e10]
      refine ⟨fun z => absurd z (by omega), fun _ => bn (fun c => yes ?_) (fun c => ⟨y0, by omega, m_lies ok me oj.1 oj.2.1 (bz (fun c2 => no c (fun w => c2 w.1)) (fun c2 => ?_))⟩)⟩
      · obtain ⟨j, j0, j1, j2⟩ := hs.mp c
        exact ⟨j, j0, by omega, j2⟩
      · rw [e10]
        exact m_lies ok me oj.1 oj.2.1 (bz (fun c3 => no c (fun w => c3 w.2)) (fun c3 => yes ⟨y, y0, by omega, c2, c3⟩))
  have X := lp (E 0 1).toNat 0 False (Int.le_refl _) (by omega) ⟨fun z => z.elim, fun ⟨j, j0, j1, _⟩ => by omega⟩
  rw [cb_f id] at X
  exact g10_hasHead (fun _ _ => v10_hasHead X)
theorem m_canHole (ok : okE E) (me : mE E h) {p r : Int} (p0 : 0 ≤ p) (p1 : p < 40) (r0 : 0 ≤ r) (r1 : r < 40) (mp : mPt p L h) (mr : mPt r R h) (lp : ln L ≤ 24) (lr : ln R ≤ 24) {i j : Int} (i0 : 0 ≤ i) (i1 : i < ln L) (j0 : 0 ≤ j) (j1 : j < ln R) (oi : okN E (nd L i)) (oj : okN E (nd R j)) (q : Q (cb (hA E L R i j)) h) : Good g (d + 3) i10_canHole [LR 10 608, LI (24 * p + i), LI (24 * r + j)] S0 h S0 (retI Q) := by
  obtain ⟨a0, a1, a2, a3, a4, a5, a6, a7⟩ := mp.2 i i0 i1
  obtain ⟨b0, b1, b2, b3, b4, b5, b6, b7⟩ := mr.2 j j0 j1
  have s4 : (nd L i 4 = 0 ∨ nd L i 4 = 1) ∧ (nd L i 4 = 1 → -1000000000000000000 < nd L i 5 ∧ nd L i 5 < 1000000000000000000 ∧ -1000000000000000000 < nd L i 6 ∧ nd L i 6 < 1000000000000000000) := by rcases oi with o | o | o | o <;> omega
  have t4 : (nd R j 4 = 0 ∨ nd R j 4 = 1) ∧ (nd R j 4 = 1 → -1000000000000000000 < nd R j 5 ∧ nd R j 5 < 1000000000000000000 ∧ -1000000000000000000 < nd R j 6 ∧ nd R j 6 < 1000000000000000000) := by rcases oj with o | o | o | o <;> omega
  have at118 : ¬ (nd L i 2 = 0 ∧ nd R j 2 = 0 ∧ spx L R i j) → L0 g (d + 2) m10_canHole (retI Q) 118 [some (LR 10 608), some (LI (24 * p + i)), some (LI (24 * r + j)), none, none, none, none, none] h := by
    intro hn
    refine v10_canHole_118 ?_
    rw [a5, b5, a4, b4]
    refine ⟨by omega, by omega, fun _ => ⟨fun z => ?_, fun z => ⟨by omega, by omega, fun _ => ⟨fun z2 => ?_, fun z2 => m_hasHead ok me (bz (fun z3 => ?_) (fun z3 => ?_))⟩⟩⟩⟩
    · rwa [cb_f (p := hA E L R i j) (fun w => w.elim hn (fun w => z w.1))] at q
    · rwa [cb_f (p := hA E L R i j) (fun w => w.elim hn (fun w => z2 w.2.1))] at q
    · rwa [cb_f (p := hA E L R i j) (fun w => w.elim hn (fun w => z3 w.2.2))] at q
    · rwa [cb_t (p := hA E L R i j) (Or.inr ⟨z, z2, z3⟩)] at q
  have at89 : ∀ y3 y5 : Int, (y3 ≤ y5 ↔ spx L R i j) → L0 g (d + 2) m10_canHole (retI Q) 89 [some (LR 10 608), some (LI (24 * p + i)), some (LI (24 * r + j)), some (LL y3), none, some (LL y5), none, none] h := by
    intro y3 y5 hx
    refine v10_canHole_89 ?_
    rw [a4, b4]
    simp only [lc_gt]
    refine ⟨by omega, by omega, fun z => at118 (fun w => z w.1), fun z => ⟨by omega, by omega, fun z2 => at118 (fun w => z2 w.2.1), fun z2 => ⟨fun z3 => at118 (fun w => by have := hx.mpr w.2.2; omega), fun z3 => ?_⟩⟩⟩
    rwa [cb_t (p := hA E L R i j) (Or.inl ⟨z, z2, hx.mp (by omega)⟩)] at q
  have at33 : ∀ y3 y5 : Int, ((nd L i 4 = 0 ∧ y3 = -1000000000000000000 ∧ y5 = 1000000000000000000) ∨ (nd L i 4 = 1 ∧ y3 = nd L i 5 ∧ y5 = nd L i 6)) → L0 g (d + 2) m10_canHole (retI Q) 33 [some (LR 10 608), some (LI (24 * p + i)), some (LI (24 * r + j)), some (LL y3), none, some (LL y5), none, none] h := by
    intro y3 y5 hy
    refine v10_canHole_33 ?_
    rw [b5]
    refine ⟨by omega, by omega, fun _ => ⟨fun z => at89 _ _ ⟨fun w => ⟨y3, by omega, by omega⟩, fun ⟨x, u, v⟩ => by omega⟩, fun z => ?_⟩⟩
    rw [(b6 (by omega)).1, (b6 (by omega)).2]
    simp only [lc_le, lc_ge]
    refine ⟨fun w => ⟨fun w2 => at89 _ _ ?_, fun w2 => at89 _ _ ?_⟩, fun w => ⟨fun w2 => at89 _ _ ?_, fun w2 => at89 _ _ ?_⟩⟩
    · exact ⟨fun w3 => ⟨y3, by omega, by omega⟩, fun ⟨x, u, v⟩ => by omega⟩
    · exact ⟨fun w3 => ⟨y3, by omega, by omega⟩, fun ⟨x, u, v⟩ => by omega⟩
    · exact ⟨fun w3 => ⟨nd R j 5, by omega, by omega⟩, fun ⟨x, u, v⟩ => by omega⟩
    · exact ⟨fun w3 => ⟨nd R j 5, by omega, by omega⟩, fun ⟨x, u, v⟩ => by omega⟩
  refine g10_canHole (fun _ _ => v10_canHole ?_)
  rw [a5]
  refine ⟨by omega, by omega, fun _ => ⟨fun z => at33 _ _ (Or.inl ⟨z, rfl, rfl⟩), fun z => ?_⟩⟩
  rw [(a6 (by omega)).1, (a6 (by omega)).2]
  exact at33 _ _ (Or.inr ⟨by omega, rfl, rfl⟩)
theorem m_canBe (ok : okE E) (me : mE E h) {p r : Int} (p0 : 0 ≤ p) (p1 : p < 40) (r0 : 0 ≤ r) (r1 : r < 40) (mp : mPt p L h) (mr : mPt r R h) (lp : ln L ≤ 24) (lr : ln R ≤ 24) {i j : Int} (i0 : 0 ≤ i) (i1 : i < ln L) (j0 : 0 ≤ j) (j1 : j < ln R) (oi : okN E (nd L i)) (oR : okL E R) (n2 : nd R j 0 = 0 ∨ nd R j 0 = 1) (q : Q (cb (hT E L R i j)) h) : Good g (d + 4) i10_canBe [LR 10 608, LI (24 * p + i), LI (24 * r + j), LI (24 * r + (j + sz R j))] S0 h S0 (retI Q) := by
  have o4 := ok.2.2.2.1
  obtain ⟨a0, a1, a2, a3, a4, a5, a6, a7⟩ := mp.2 i i0 i1
  obtain ⟨b0, b1, b2, b3, b4, b5, b6, b7⟩ := mr.2 j j0 j1
  have s4 : nd L i 4 = 0 ∨ nd L i 4 = 1 := by rcases oi with o | o | o | o <;> omega
  have oj := oR j j0 j1
  have sl := sz_le j0 j1
  have sp := sz_pos j0 j1
  have no : ¬ fh E L R i j → Q 0 h := fun z => by rwa [cb_f (p := hT E L R i j) (fun w => z w.1)] at q
  have go : fh E L R i j → L0 g (d + 3) m10_canBe (retI Q) 112 [some (LR 10 608), none, none, some (LI (24 * r + (j + sz R j))), some (LI 1), some (LI (24 * r + j))] h := by
    intro hf
    have loop : ∀ (m : Nat) (y : Int) (s : Prop), j ≤ y → y + m = j + sz R j → (s ↔ ∀ x : Int, j ≤ x → x < y → nd R x 0 = 2 → hA E R R x x) → L0 g (d + 3) m10_canBe (retI Q) 112 [some (LR 10 608), none, none, some (LI (24 * r + (j + sz R j))), some (LI (cb s)), some (LI (24 * r + y))] h := by
      intro m
      induction m with
      | zero =>
        intro y s y0 hy hs
        refine v10_canBe_112 ⟨fun _ => ⟨cb_01 s, ?_⟩, fun z => absurd (by omega) z⟩
        rwa [cb_c (show hT E L R i j ↔ s from ⟨fun w => hs.mpr (fun x x0 x1 => w.2 x x0 (by omega)), fun w => ⟨hf, fun x x0 x1 => hs.mp w x x0 (by omega)⟩⟩)] at q
      | succ m ih =>
        intro y s y0 hy hs
        have oy := oR y (by omega) (by omega)
        have M := mr.2 y (by omega) (by omega)
        have yes : s → (nd R y 0 = 2 → hA E R R y y) → L0 g (d + 3) m10_canBe (retI Q) 112 [some (LR 10 608), none, none, some (LI (24 * r + (j + sz R j))), some (LI 1), some (LI (24 * r + y + 1))] h := fun w w2 => by
          have := ih (y + 1) True (by omega) (by omega) ⟨fun _ x x0 x1 => by
            by_cases e : x = y
            · rw [e]; exact w2
            · exact hs.mp w x x0 (by omega), fun _ => trivial⟩
          rwa [cb_t trivial, ← Int.add_assoc (24 * r) y 1] at this
        have non : ¬ (s ∧ (nd R y 0 = 2 → hA E R R y y)) → L0 g (d + 3) m10_canBe (retI Q) 112 [some (LR 10 608), none, none, some (LI (24 * r + (j + sz R j))), some (LI 0), some (LI (24 * r + y + 1))] h := fun w => by
          have := ih (y + 1) False (by omega) (by omega) ⟨fun z => z.elim, fun v => w ⟨hs.mpr (fun x x0 x1 => v x x0 (by omega)), v y y0 (by omega)⟩⟩
          rwa [cb_f id, ← Int.add_assoc (24 * r) y 1] at this
        refine v10_canBe_112 ?_
        rw [w32_id (x := 24 * r + y + 1) (by omega) (by omega), M.1]
        refine ⟨fun z => absurd z (by omega), fun _ => bz (fun c => non (fun w => c w.1)) (fun c => ⟨by omega, by omega, fun z => yes c (fun w => absurd w z), fun z => m_canHole ok me r0 r1 r0 r1 mr mr lr lr (by omega) (by omega) (by omega) (by omega) oy oy (bz (fun c2 => non (fun w => c2 (w.2 z))) (fun c2 => yes c (fun _ => c2)))⟩)⟩
    have X := loop (sz R j).toNat j True (Int.le_refl _) (by omega) ⟨fun _ x x0 x1 => by omega, fun _ => trivial⟩
    rwa [cb_t trivial] at X
  refine g10_canBe (fun _ _ _ => v10_canBe ?_)
  rw [a4, a5, b0, b1, b2]
  refine ⟨by omega, by omega, fun z => ⟨fun z2 => by omega, fun z2 => ⟨by omega, by omega, fun z3 => no (fun w => ?_), fun z3 => fun _ => ⟨fun z4 => go ?_, fun z4 => ?_⟩⟩⟩, fun z => ⟨by omega, by omega, fun _ => ⟨fun z2 => no (fun w => ?_), fun z2 => ?_⟩⟩⟩
  · have e9 : nd R j 9 = 0 := by rcases oj with o | o | o | o <;> omega
    have := w.1
    rw [e9] at this
    exact z3 ((lie_0 ok).mp this)
  · have e9 : nd R j 9 = 0 := by rcases oj with o | o | o | o <;> omega
    refine ⟨?_, fun w => by omega⟩
    rw [e9]
    exact (lie_0 ok).mpr z3
  · have e9 : nd R j 9 = 0 := by rcases oj with o | o | o | o <;> omega
    rw [(a6 (by omega)).1, (a6 (by omega)).2, if_pos z2]
    simp only [lc_lt, lc_le]
    refine ⟨fun z5 => no (fun w => by have := w.2 (by omega); omega), fun z5 => ⟨fun z6 => go ⟨?_, fun w => ⟨z2, by omega, z6⟩⟩, fun z6 => no (fun w => by have := w.2 (by omega); omega)⟩⟩
    rw [e9]
    exact (lie_0 ok).mpr z3
  · have := w.2 (by omega); omega
  · have oo : 0 ≤ nd R j 1 ∧ nd R j 1 < E 0 1 ∧ nd R j 9 = E 2 (nd R j 1) := by
      rcases oj with o | o | o | o
      · exact ⟨o.2.1, o.2.2.1, o.2.2.2.2.2.2.2.2.2.2⟩
      all_goals omega
    have o2 := ok.2.2.2.2.2 _ oo.1 oo.2.1
    rw [(me.2.2.2 _ oo.1 oo.2.1).1]
    refine ⟨oo.1, by omega, m_lies (d := d + 2) ok me o2.1 o2.2.1 (bn (fun z3 => ?_) (fun z3 => no (fun w => z3 (by rw [← oo.2.2]; exact w.1))))⟩
    rw [b0]
    exact ⟨fun _ => go ⟨by rw [oo.2.2]; exact z3, fun w => by omega⟩, fun z4 => by omega⟩
theorem m_meet (ok : okE E) (me : mE E h) {p r : Int} (p0 : 0 ≤ p) (p1 : p < 40) (r0 : 0 ≤ r) (r1 : r < 40) (mp : mPt p L h) (mr : mPt r R h) (lp : ln L ≤ 24) (lr : ln R ≤ 24) (oL : okL E L) (oR : okL E R) (wL : wf L 1) (wR : wf R 1) (sL : ∀ i : Int, 0 ≤ i → i < ln L → nd L i 0 = 0 ∨ nd L i 0 = 1 ∨ nd L i 0 = 2) (sR : ∀ i : Int, 0 ≤ i → i < ln R → nd R i 0 = 0 ∨ nd R i 0 = 1 ∨ nd R i 0 = 2) (q : Q (cb (mt E L R (ln L).toNat 0 0)) h) : Good g (d + 5) i10_meet [LR 10 608, LI p, LI r] S0 h S0 (retI Q) := by
  have loop : ∀ (k : Nat) (i j : Int), MI2 L R i j → ln L ≤ i + k → Q (cb (mt E L R k i j)) h → L0 g (d + 4) m10_meet (retI Q) 21 [some (LR 10 608), some (LI p), some (LI r), some (LI (24 * p + i)), some (LI (24 * r + j)), some (LI (24 * p + ln L)), none, none, none] h := by
    intro k
    induction k with
    | zero =>
      intro i j H hi q
      refine v10_meet_21 ⟨fun _ => ?_, fun z => absurd (by omega) z⟩
      rwa [cb_t (p := mt E L R 0 i j) trivial] at q
    | succ k ih =>
      intro i j H hi q
      by_cases i1 : ln L ≤ i
      · refine v10_meet_21 ⟨fun _ => ?_, fun z => absurd (by omega) z⟩
        rwa [cb_t (p := mt E L R (k + 1) i j) (Or.inl i1)] at q
      have i1 : i < ln L := by omega
      have j1 := H.r i1
      have i0 := H.1
      have j0 := H.2.1
      have si := sz_le i0 i1
      have sj := sz_le j0 j1
      have pi := sz_pos i0 i1
      have pj := sz_pos j0 j1
      have oi := oL i i0 i1
      have oj := oR j j0 j1
      have ti := sL i i0 i1
      have tj := sR j j0 j1
      obtain ⟨a0, a1, a2, a3, a4, a5, a6, a7⟩ := mp.2 i i0 i1
      obtain ⟨b0, b1, b2, b3, b4, b5, b6, b7⟩ := mr.2 j j0 j1
      have no : ¬ aG E L R i j → Q 0 h := fun z => by rwa [cb_f (p := mt E L R (k + 1) i j) (fun u => u.elim (fun u => by omega) (fun u => z u.1))] at q
      have over : aG E L R i j → ¬ (nd L i 0 = 0 ∧ nd R j 0 = 0) → ∀ x y : Int, x = i + sz L i → y = j + sz R j → L0 g (d + 4) m10_meet (retI Q) 21 [some (LR 10 608), some (LI p), some (LI r), some (LI (24 * p + x)), some (LI (24 * r + y)), some (LI (24 * p + ln L)), none, none, none] h := fun w v x y ex ey => by
        rw [ex, ey]
        refine ih _ _ (H.o i1) (by omega) ?_
        rwa [cb_c (show mt E L R (k + 1) i j ↔ mt E L R k (i + sz L i) (j + sz R j) from ⟨fun u => by
            rcases u with u | u
            · omega
            · have := u.2; rwa [if_neg v] at this, fun u => Or.inr ⟨w, by rw [if_neg v]; exact u⟩⟩)] at q
      have inn : aG E L R i j → nd L i 0 = 0 → nd R j 0 = 0 → nd L i 1 = nd R j 1 → L0 g (d + 4) m10_meet (retI Q) 21 [some (LR 10 608), some (LI p), some (LI r), some (LI (24 * p + (i + 1))), some (LI (24 * r + (j + 1))), some (LI (24 * p + ln L)), none, none, none] h := fun w y y2 e1 => by
        refine ih _ _ (H.s i1 oi oj y y2 e1) (by omega) ?_
        rwa [cb_c (show mt E L R (k + 1) i j ↔ mt E L R k (i + 1) (j + 1) from ⟨fun u => by
            rcases u with u | u
            · omega
            · have := u.2; rwa [if_pos ⟨y, y2⟩] at this, fun u => Or.inr ⟨w, by rw [if_pos ⟨y, y2⟩]; exact u⟩⟩)] at q
      have one : ∀ {X : NL} {x : Int}, 0 ≤ x → x < ln X → okN E (nd X x) → (nd X x 0 = 1 ∨ nd X x 0 = 2) → sz X x = 1 := fun x0 x1 o z => sz_one x0 x1 (by rcases o with o | o | o | o <;> omega)
      have v5L : (if nd L i 0 = 1 then nd L i 5 else 0) = (if nd L i 0 = 2 then 0 else nd L i 5) := by rcases oi with o | o | o | o <;> (split <;> split <;> omega)
      have v5R : (if nd R j 0 = 1 then nd R j 5 else 0) = (if nd R j 0 = 2 then 0 else nd R j 5) := by rcases oj with o | o | o | o <;> (split <;> split <;> omega)
      refine v10_meet_21 ?_
      rw [a0, a1, a2, a7, b0, b1, b2, b7, v5L, v5R, w32_id (x := 24 * p) (by omega) (by omega), w32_id (x := 24 * r) (by omega) (by omega), w32_id (x := 24 * p + (i + sz L i)) (by omega) (by omega), w32_id (x := 24 * r + (j + sz R j)) (by omega) (by omega), w32_id (x := 24 * p + i + 1) (by omega) (by omega), w32_id (x := 24 * r + j + 1) (by omega) (by omega), Int.add_assoc (24 * p) i 1, Int.add_assoc (24 * r) j 1]
      simp only [lc_eq]
      refine ⟨fun z => absurd z (by omega), fun _ => ⟨by omega, by omega, fun z => ⟨by omega, by omega, fun z2 => ?_, fun z2 => ?_⟩, fun z => ⟨by omega, by omega, fun z2 => ?_, fun z2 => ?_⟩⟩⟩
      · rw [if_neg z, if_neg z2]
        have n1 : nd L i 1 ≠ nd R j 1 → ¬ aG E L R i j := fun v w => by rcases w with ⟨a, _⟩ | ⟨a, _⟩ | ⟨_, a, _⟩ | ⟨_, _, a, _⟩ <;> contradiction
        refine ⟨fun z3 => no (n1 ?_), fun z3 => ⟨fun z4 => no (n1 z4), fun z4 => ⟨fun z5 => ?_, fun z5 => no (fun w => ?_)⟩⟩⟩
        · rcases oi with o | o | o | o <;> rcases oj with u | u | u | u <;> omega
        · have w : aG E L R i j := Or.inr (Or.inr (Or.inr ⟨z, z2, z4, z5⟩))
          by_cases c : nd L i 0 = 0
          · exact inn w c (by omega) z4
          · exact over w (fun v => c v.1) _ _ (by rw [one i0 i1 oi (by omega)]) (by rw [one j0 j1 oj (by omega)])
        · rcases w with ⟨a, _⟩ | ⟨a, _⟩ | ⟨_, a, _⟩ | ⟨_, _, _, a⟩ <;> contradiction
      · refine m_canBe ok me r0 r1 p0 p1 mr mp lr lp j0 j1 i0 i1 oj oL (by omega) (bn (fun c => ?_) (fun c => no (fun w => ?_)))
        · exact over (Or.inr (Or.inr (Or.inl ⟨z, z2, c⟩))) (fun v => by omega) _ _ rfl rfl
        · rcases w with ⟨a, _⟩ | ⟨a, _⟩ | ⟨_, _, a⟩ | ⟨_, a, _⟩ <;> contradiction
      · refine m_canBe ok me p0 p1 r0 r1 mp mr lp lr i0 i1 j0 j1 oi oR (by omega) (bn (fun c => ?_) (fun c => no (fun w => ?_)))
        · exact over (Or.inr (Or.inl ⟨z, z2, c⟩)) (fun v => by omega) _ _ rfl rfl
        · rcases w with ⟨_, a, _⟩ | ⟨_, _, a⟩ | ⟨a, _⟩ | ⟨a, _⟩ <;> contradiction
      · refine m_canHole (d := d + 1) ok me p0 p1 r0 r1 mp mr lp lr i0 i1 j0 j1 oi oj (bn (fun c => ?_) (fun c => no (fun w => ?_)))
        · exact over (Or.inl ⟨z, z2, c⟩) (fun v => by omega) _ _ (by rw [one i0 i1 oi (by omega)]) (by rw [one j0 j1 oj (by omega)])
        · rcases w with ⟨_, _, a⟩ | ⟨_, a, _⟩ | ⟨a, _⟩ | ⟨a, _⟩ <;> contradiction
  have l0 := ln_nn L
  refine g10_meet (fun _ _ => v10_meet ⟨p0, p1, ?_⟩)
  rw [mp.1, w32_id (x := 24 * p) (by omega) (by omega), w32_id (x := 24 * r) (by omega) (by omega), w32_id (x := 24 * p + ln L) (by omega) (by omega)]
  have X := loop _ 0 0 ⟨by decide, by decide, 1, wL, wR⟩ (by omega) q
  rw [Int.add_zero, Int.add_zero] at X
  exact X
theorem cntF_mn {f f' : Int → Int} : ∀ k : Nat, (∀ i : Int, 0 ≤ i → i < k → f i ≤ f' i) → cntF f k ≤ cntF f' k
  | 0, _ => Int.le_refl _
  | k + 1, z => by
    have a := cntF_mn k (fun i i0 i1 => z i i0 (by omega))
    have b := z k (by omega) (by omega)
    simp only [cntF]
    omega
theorem unl_le (L : NL) : unl L ≤ nmd L := by
  unfold unl nmd
  refine cntF_mn _ (fun i _ _ => ?_)
  by_cases c : nd L i 3 ≠ -1
  · rw [cb_t c]
    have := cb_01 (nd L i 3 ≠ -1 ∧ ag L i = -1)
    omega
  · rw [cb_f c, cb_f (fun w => c w.1)]
    exact Int.le_refl _
noncomputable def clsV (E : Ev) (P : Ps) (x y : Int) : Int := @ite _ (¬ ((0 ≤ x ∧ x < 40 ∧ (P x).1 = 1) ∧ 0 ≤ y ∧ y < 40 ∧ (P y).1 = 1)) (Classical.propDecidable _) (-1001) (@ite _ (inN P x ∧ inN P y ∧ nmd (P x).2.2 = unl (P x).2.2 ∧ nmd (P y).2.2 = unl (P y).2.2) (Classical.propDecidable _) (cb (mt E (P x).2.2 (P y).2.2 (ln (P x).2.2).toNat 0 0)) (-1003))
theorem x_twice (cp : cPS P h) {p : Int} (p0 : 0 ≤ p) (p1 : p < 40) (c : (P p).1 = 1) (q : Q (cb (¬ nmd (P p).2.2 = unl (P p).2.2)) h) : Good g (d + 1) i6_hasNameTwice [LR 6 (35 + 14 * p)] S0 h S0 (retI Q) := by
  have e := ((cp p p0 p1).2.2 c).2
  have u := unl_le (P p).2.2
  refine g6_hasNameTwice (fun _ => v6_hasNameTwice (by omega) ?_)
  rw [e.2.2.2.2.1, e.2.2.2.2.2.1]
  exact ⟨fun z => by rwa [cb_f (by omega)] at q, fun z => by rwa [cb_t (by omega)] at q⟩
theorem x_clash (ok : okE E) (ce : cE E h) (op : okP E P) (cp : cPS P h) {x y : Int} (k : Q (clsV E P x y) h) : Good g (d + 8) i9_clash [LR 9 4, LI x, LI y] S0 h S0 (retI Q) := by
  unfold clsV at k
  refine g9_clash (fun _ _ => v9_clash (x_patternOf (E := E) (d := d + 6) op cp (fun c => x_patternOf (E := E) (d := d + 6) op cp (fun c2 => ⟨fun _ => ?_, fun z => absurd rfl z⟩) (fun _ _ _ => ⟨fun _ => ?_, fun z => absurd rfl z⟩)) (fun x0 x1 x2 => x_patternOf (E := E) (d := d + 6) op cp (fun c2 => ⟨fun z => absurd z (by omega), fun _ => ⟨fun z => absurd rfl z, fun _ => ?_⟩⟩) (fun y0 y1 y2 => ⟨fun z => absurd z (by omega), fun _ => ⟨fun _ => ?_, fun z => absurd z (by omega)⟩⟩))))
  · rwa [if_pos (fun z => c z.1)] at k
  · rwa [if_pos (fun z => c z.1)] at k
  · rwa [if_pos (fun z => c2 z.2)] at k
  · rw [if_neg (not_not_intro ⟨⟨x0, x1, x2⟩, y0, y1, y2⟩)] at k
    refine x_isInNet (E := E) (d := d + 6) op cp x0 x1 (bz (fun c => by rwa [if_neg (fun z => c z.1)] at k) (fun c => x_isInNet (E := E) (d := d + 6) op cp y0 y1 (bz (fun c2 => by rwa [if_neg (fun z => c2 z.2.1)] at k) (fun c2 => x_twice (d := d + 6) cp x0 x1 x2 (bn (fun c3 => by rwa [if_neg (fun z => c3 z.2.2.1)] at k) (fun c3 => x_twice (d := d + 6) cp y0 y1 y2 (bz (fun c4 => ?_) (fun c4 => by rwa [if_neg (fun z => c4 z.2.2.2)] at k))))))))
    rw [if_pos ⟨c, c2, Classical.not_not.mp c3, Classical.not_not.mp c4⟩] at k
    have ox := op x x0 x1
    have oy := op y y0 y1
    have cx := ((cp x x0 x1).2.2 x2).2
    have cy := ((cp y y0 y1).2.2 y2).2
    exact f_common ok ce (NDs.pat x0 x1) cx.1 cx.2.1 ox.2.1 (by decide) (NDs.pat y0 y1) cy.1 cy.2.1 oy.2.1 (by decide) (ox.2.2 x2).1 (oy.2.2 y2).1 (ox.2.2 x2).2.1 (oy.2.2 y2).2.1 (x_asInt (d := d + 6) (cb_01 _) k)
theorem y_clash (ok : okE E) (me : mE E h) (op : okP E P) (mp : mPS P h) {x y : Int} (k : Q (clsV E P x y) h) : Good g (d + 6) i10_clash [LR 10 608, LI x, LI y] S0 h S0 (retI Q) := by
  unfold clsV at k
  refine g10_clash (fun _ _ => v10_clash (y_noPattern (E := E) (d := d + 3) op mp (bn (fun c => by rwa [if_pos (fun z => c z.1)] at k) (fun c => y_noPattern (E := E) (d := d + 3) op mp (bz (fun c2 => ?_) (fun c2 => by rwa [if_pos (fun z => c2 z.2)] at k))))))
  have c := Classical.not_not.mp c
  have c2 := Classical.not_not.mp c2
  rw [if_neg (not_not_intro ⟨c, c2⟩)] at k
  have ox := op x c.1 c.2.1
  have oy := op y c2.1 c2.2.1
  have mx := ((mp x c.1 c.2.1).2 c.2.2).2
  have my := ((mp y c2.1 c2.2.1).2 c2.2.2).2
  refine m_namesOf (d := d + 4) ok c.1 c.2.1 mx (ox.2.2 c.2.2).1 ox.2.1 (m_namesOf (d := d + 4) ok c.1 c.2.1 mx (ox.2.2 c.2.2).1 ox.2.1 ?_)
  rw [if_pos rfl, if_neg (by decide)]
  refine ⟨fun z => ?_, fun z => ?_⟩
  · rw [if_neg (fun w => z w.2.2.1)] at k
    exact y_inNet (d := d + 3) ok me op mp c.1 c.2.1 (bz (fun _ => k) (fun _ => y_inNet (d := d + 3) ok me op mp c2.1 c2.2.1 (bz (fun _ => k) (fun _ => k))))
  · refine m_namesOf (d := d + 4) ok c2.1 c2.2.1 my (oy.2.2 c2.2.2).1 oy.2.1 (m_namesOf (d := d + 4) ok c2.1 c2.2.1 my (oy.2.2 c2.2.2).1 oy.2.1 ?_)
    rw [if_pos rfl, if_neg (by decide)]
    refine ⟨fun z2 => ?_, fun z2 => ?_⟩
    · refine y_inNet (d := d + 3) ok me op mp c.1 c.2.1 (bz (fun c3 => by rwa [if_neg (fun w => c3 w.1)] at k) (fun c3 => y_inNet (d := d + 3) ok me op mp c2.1 c2.2.1 (bz (fun c4 => by rwa [if_neg (fun w => c4 w.2.1)] at k) (fun c4 => ?_))))
      rw [if_pos ⟨c3, c4, z, z2⟩] at k
      exact m_meet ok me c.1 c.2.1 c2.1 c2.2.1 mx my ox.2.1 oy.2.1 (ox.2.2 c.2.2).1 (oy.2.2 c2.2.2).1 (ox.2.2 c.2.2).2.1 (oy.2.2 c2.2.2).2.1 (inN_2 op c.1 c.2.1 c3) (inN_2 op c2.1 c2.2.1 c4) (bz (fun w => by rwa [cb_f w] at k) (fun w => by rwa [cb_t w] at k))
    · rw [if_neg (fun w => z2 w.2.2.2)] at k
      exact y_inNet (d := d + 3) ok me op mp c.1 c.2.1 (bz (fun _ => k) (fun _ => y_inNet (d := d + 3) ok me op mp c2.1 c2.2.1 (bz (fun _ => k) (fun _ => k))))
end
