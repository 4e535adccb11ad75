/-! TREE AND CHANGE, the model -/
def mTr (T : NL) (h : Hp) : Prop := mT T h ∧ ∀ i : Int, 0 ≤ i → i < ln T → isP T 0 i (h 640 i)
theorem mTr.to {T : NL} {h h' : Hp} (H : mTr T h) (e0 : h' 608 42 = h 608 42) (e : ∀ a : Int, 637 ≤ a → a ≤ 640 → h' a = h a) : mTr T h' := by
  refine ⟨H.1.to e0 (e 637 (by decide) (by decide)) (e 638 (by decide) (by decide)) (e 639 (by decide) (by decide)), ?_⟩
  rw [e 640 (by decide) (by decide)]
  exact H.2
def mFrT (h h' : Hp) : Prop := (∀ a : Int, a ≠ 608 → ¬ (614 ≤ a ∧ a ≤ 624) → ¬ (637 ≤ a ∧ a ≤ 640) → h' a = h a) ∧ (∀ j : Int, (j < 17 ∨ 28 < j) → j ≠ 7 → j ≠ 42 → j ≠ 47 → h' 608 j = h 608 j) ∧ h' 608 47 = 0
/-- rows 637 .. 639 hold what F says; all else as in h -/
def r3F (h h' : Hp) (F : Int → Int → Int) : Prop := (∀ a : Int, ¬ (637 ≤ a ∧ a ≤ 639) → h' a = h a) ∧ ∀ a : Int, 637 ≤ a → a ≤ 639 → ∀ j : Int, h' a j = F a j
theorem r3_3 {h h2 h3 h4 h5 : Hp} {F F' : Int → Int → Int} {y v1 v2 v3 : Int} (R : r3F h h2 F) (e3 : h3 = hup h2 637 y v1) (e4 : h4 = hup h3 638 y v2) (e5 : h5 = hup h4 639 y v3) (hF : ∀ a j : Int, 637 ≤ a → a ≤ 639 → F' a j = if j = y then (if a = 637 then v1 else if a = 638 then v2 else v3) else F a j) : r3F h h5 F' := by
  refine ⟨fun a ha => by rw [e5, hup_r (by omega), e4, hup_r (by omega), e3, hup_r (by omega)]; exact R.1 a ha, fun a a0 a1 j => ?_⟩
  rw [hF a j a0 a1]
  have aa : a = 637 ∨ a = 638 ∨ a = 639 := by omega
  by_cases c : j = y
  · subst c
    rw [if_pos rfl]
    rcases aa with rfl | rfl | rfl
    · rw [if_pos rfl, e5, hup_ne (by decide), e4, hup_ne (by decide), e3, hup_at]
    · rw [if_neg (by decide), if_pos rfl, e5, hup_ne (by decide), e4, hup_at]
    · rw [if_neg (by decide), if_neg (by decide), e5, hup_at]
  · rw [if_neg c, e5, hup_nj c, e4, hup_nj c, e3, hup_nj c]
    exact R.2 a a0 a1 j
section
variable {g : Gl} {d : Nat} {h : Hp} {E : Ev} {B : Int → Int} {n : Int} {T : NL} {Q : Int → Hp → Prop}
theorem okT_n5 {i : Int} (ot : okT E T) (i0 : 0 ≤ i) (i1 : i < ln T) : (if nd T i 0 = 1 then nd T i 5 else 0) = nd T i 5 := by
  rcases ot.2.2.2 i i0 i1 with c | c
  · rw [if_neg (by omega)]
    rcases ot.1 i i0 i1 with o | o | o | o
    · omega
    · omega
    · omega
    · omega
  · rw [if_pos c]
theorem y_tree (ok : okE E) (me : mE E h) (mx : mX B n h) (q1 : (rdA E B n false 120).1 = 0 → ∀ h' : Hp, mFrT h h' → h' 608 7 = 0 → h' 608 23 = -1 → mTr (rdA E B n false 120).2.2 h' → Q (ln (rdA E B n false 120).2.2) h') (q2 : (rdA E B n false 120).1 ≠ 0 → ∀ h' : Hp, mFr h h' → h' 608 7 = 0 → h' 608 23 = (rdA E B n false 120).2.1 → Q (-10 - (rdA E B n false 120).1) h') : Good g (d + 10) i10_tree [LR 10 608] S0 h S0 (retI Q) := by
  have n0 := mx.2.1
  refine g10_tree (v10_tree ?_)
  have r := rdA_ok (B := B) (n := n) (ip := false) (mo := 120) ok n0 (by decide)
  have X := m_read (g := g) (d := d) (h := h) (E := E) (B := B) (n := n) (ip := false) (mo := 120) (Q := fun h1 => Good g (d + 9) i10_fine [LR 10 608] S0 h1 S0 (retI (fun r5 h3 => ((¬ r5 = 0 → ∀ h7 : Hp, h7 = hup h3 608 42 (h3 608 17) → L0 g (d + 9) m10_tree (retI Q) 32 [some (LR 10 608), some (LI 0)] h7) ∧ (r5 = 0 → Q (w32 ((-10) - (h3 608 21))) h3))))) ok me mx (by decide) (by decide) (fun z h1 F1 t1 p1 f1 N1 E1 => m_fine ?_) (fun z h1 F1 t1 p1 f1 => m_fine ?_)
  · rwa [show cb (false = true) = 0 from cb_f (by decide)] at X
  · rw [f1]
    refine bn (fun _ h7 k7 => ?_) (fun z => absurd rfl z)
    obtain ⟨od, wd, ld⟩ := rdA_okT (B := B) (n := n) ok n0 (by decide) (by decide) z
    generalize (rdA E B n false 120).2.2 = D at *
    have d0 := ln_nn D
    rw [N1.1] at k7
    have e17 : h7 608 17 = ln D := by rw [k7, hup_nj (by decide), N1.1]
    have lp : ∀ (m : Nat) (y : Int) (h8 : Hp), 0 ≤ y → y + m = ln D → r3F h7 h8 (fun a j => if 0 ≤ j ∧ j < y then (if a = 637 then nd D j 1 else if a = 638 then nd D j 5 else j + sz D j) else h7 a j) → L0 g (d + 9) m10_tree (retI Q) 32 [some (LR 10 608), some (LI y)] h8 := by
      intro m
      induction m with
      | zero =>
        intro y h8 y0 hy R
        have e8 : h8 608 17 = ln D := by rw [R.1 608 (by decide)]; exact e17
        refine v10_tree_32 ⟨fun _ => ?_, fun z => absurd (by rw [e8]; omega) z⟩
        have t8 : mT D h8 := ⟨by rw [R.1 608 (by decide), k7, hup_at], fun i i0 i1 => ⟨by rw [R.2 637 (by decide) (by decide) i]; dsimp only; rw [if_pos ⟨i0, by omega⟩, if_pos rfl], by rw [R.2 638 (by decide) (by decide) i]; dsimp only; rw [if_pos ⟨i0, by omega⟩, if_neg (by decide), if_pos rfl], by rw [R.2 639 (by decide) (by decide) i]; dsimp only; rw [if_pos ⟨i0, by omega⟩, if_neg (by decide), if_neg (by decide)]⟩⟩
        refine m_findUps t8 (by omega) (fun h9 P9 F9 h10 k10 => ?_)
        have e42 : h10 608 42 = ln D := by rw [k10, hup_nj (by decide), F9 608 (by decide)]; exact t8.1
        rw [e42]
        refine q1 z h10 ⟨fun a c1 c2 c3 => ?_, fun j c1 c2 c3 c4 => ?_, by rw [k10, hup_at]⟩ ?_ ?_ ?_
        · rw [k10, hup_r c1, F9 a (by omega), R.1 a (by omega), k7, hup_r c1]
          exact F1.1 a c1 c2
        · rw [k10, hup_nj c4, F9 608 (by decide), R.1 608 (by decide), k7, hup_nj c3]
          exact F1.2 j c1 c2
        · rw [k10, hup_nj (by decide), F9 608 (by decide), R.1 608 (by decide), k7, hup_nj (by decide), t1]
        · rw [k10, hup_nj (by decide), F9 608 (by decide), R.1 608 (by decide), k7, hup_nj (by decide), p1]
        · exact ⟨t8.to (by rw [e42]; exact t8.1.symm) (by rw [k10, hup_r (by decide), F9 637 (by decide)]) (by rw [k10, hup_r (by decide), F9 638 (by decide)]) (by rw [k10, hup_r (by decide), F9 639 (by decide)]), fun i i0 i1 => by rw [k10, hup_ne (by decide)]; exact P9 i i0 i1⟩
      | succ m ih =>
        intro y h8 y0 hy R
        have e8 : h8 608 17 = ln D := by rw [R.1 608 (by decide)]; exact e17
        have N := N1.2 y y0 (by omega)
        have row : ∀ a : Int, 614 ≤ a → a ≤ 622 → h8 a = h1 a := fun a c1 c2 => by rw [R.1 a (by omega), k7, hup_r (by omega)]
        refine v10_tree_32 ⟨fun z => absurd z (by rw [e8]; omega), fun _ => ⟨y0, by omega, by omega, fun h9 k9 h10 k10 h11 k11 => ?_⟩⟩
        rw [w32_id (by omega) (by omega)]
        refine ih (y + 1) h11 (by omega) (by omega) (r3_3 R k9 k10 k11 (fun a j a0 a1 => ?_))
        have v1 : h8 615 y = nd D y 1 := by rw [row 615 (by decide) (by decide)]; exact N.2.1
        have v2 : h9 616 y = nd D y 5 := by rw [k9, hup_ne (by decide), row 616 (by decide) (by decide), N.2.2.1]; exact okT_n5 od y0 (by omega)
        have v3 : h10 622 y = y + sz D y := by rw [k10, hup_ne (by decide), k9, hup_ne (by decide), row 622 (by decide) (by decide)]; exact E1 y y0 (by omega)
        rw [v1, v2, v3]
        try dsimp only
        by_cases c : j = y
        · subst c
          rw [if_pos ⟨y0, by omega⟩, if_pos rfl]
        · rw [if_neg c]
          by_cases c2 : 0 ≤ j ∧ j < y
          · rw [if_pos c2, if_pos ⟨c2.1, by omega⟩]
          · rw [if_neg c2, if_neg (by omega)]
    exact lp (ln D).toNat 0 h7 (by decide) (by omega) ⟨fun _ _ => rfl, fun a a0 a1 j => by dsimp only; rw [if_neg (by omega)]⟩
  · rw [f1]
    refine bn (fun z2 => absurd z2 z) (fun _ => ?_)
    rw [w32_id (by have := r.2.2.1; have := r.2.2.2.1; omega) (by have := r.2.2.1; omega)]
    exact q2 z h1 F1 t1 p1
theorem y_change (ok : okE E) (me : mE E h) (mx : mX B n h) (mt : mTr T h) (ot : okT E T) {x mo : Int} (em : mo = 120 - ln T + sz T x) (q0 : ¬ (0 ≤ x ∧ x < ln T) → Q (-1001) h) (q1 : 0 ≤ x → x < ln T → (rdA E B n false mo).1 = 0 → ∀ h' : Hp, mFrT h h' → h' 608 7 = 0 → h' 608 23 = -1 → mTr (rpl T (rdA E B n false mo).2.2 x (sz T x)) h' → Q (ln (rpl T (rdA E B n false mo).2.2 x (sz T x))) h') (q2 : 0 ≤ x → x < ln T → (rdA E B n false mo).1 ≠ 0 → ∀ h' : Hp, mFr h h' → h' 608 7 = 0 → h' 608 23 = (rdA E B n false mo).2.1 → Q (-10 - (rdA E B n false mo).1) h') : Good g (d + 10) i10_change [LR 10 608, LI x] S0 h S0 (retI Q) := by
  have n0 := mx.2.1
  have l0 := ln_nn T
  have l1 := ot.2.2.1
  refine g10_change (fun _ => v10_change (m_noNode (L := T) mt.1.1 l1 (bz (fun c => ?_) q0)))
  have c : 0 ≤ x ∧ x < ln T := Classical.byContradiction c
  have s0 := sz_pos c.1 c.2
  have s1 := sz_le c.1 c.2
  have w : wf T 1 := by
    rcases ot.2.1 with z | z
    · subst z
      exact absurd c.2 (by show ¬ x < 0; omega)
    · exact z
  have e39 : h 639 x = x + sz T x := (mt.1.2 x c.1 c.2).2.2
  rw [e39, mt.1.1, show x + sz T x - x = sz T x by omega, w32_id (x := sz T x) (by omega) (by omega), w32_id (x := 120 - ln T) (by omega) (by omega), w32_id (x := 120 - ln T + sz T x) (by omega) (by omega), ← em]
  refine ⟨c.1, by omega, ?_⟩
  have r := rdA_ok (B := B) (n := n) (ip := false) (mo := mo) ok n0 (by omega)
  have X := m_read (g := g) (d := d) (h := h) (E := E) (B := B) (n := n) (ip := false) (mo := mo) (Q := fun h5 => Good g (d + 9) i10_fine [LR 10 608] S0 h5 S0 (retI (fun r9 h7 => ((¬ r9 = 0 → L0 g (d + 9) m10_change (retI Q) 65 [some (LR 10 608), some (LI x), some (LI (sz T x)), some (LI (w32 ((h7 608 17) - (sz T x)))), some (LI (w32 ((h7 608 42) - 1)))] h7) ∧ (r9 = 0 → Q (w32 ((-10) - (h7 608 21))) h7))))) ok me mx (by omega) (by omega) (fun z h1 F1 t1 p1 f1 N1 E1 => m_fine ?_) (fun z h1 F1 t1 p1 f1 => m_fine ?_)
  · rwa [show cb (false = true) = 0 from cb_f (by decide)] at X
  · rw [f1]
    refine bn (fun _ => ?_) (fun z => absurd rfl z)
    obtain ⟨od, wd, ld⟩ := rdA_okT (B := B) (n := n) ok n0 (by omega) (by omega) z
    generalize (rdA E B n false mo).2.2 = D at *
    have d0 := ln_nn D
    have e42 : h1 608 42 = ln T := by rw [F1.2 42 (by decide) (by decide)]; exact mt.1.1
    rw [N1.1, e42, w32_id (x := ln D - sz T x) (by omega) (by omega), w32_id (x := ln T - 1) (by omega) (by omega)]
    generalize hm : ln D - sz T x = mr
    have tr : ∀ a i : Int, 637 ≤ a → a ≤ 639 → 0 ≤ i → i < ln T → h1 a i = if a = 637 then nd T i 1 else if a = 638 then nd T i 5 else i + sz T i := by
      intro a i a0 a1 i0 i1
      rw [F1.1 a (by omega) (by omega)]
      have M := mt.1.2 i i0 i1
      have aa : a = 637 ∨ a = 638 ∨ a = 639 := by omega
      rcases aa with rfl | rfl | rfl
      · rw [if_pos rfl]; exact M.1
      · rw [if_neg (by decide), if_pos rfl]; exact M.2.1
      · rw [if_neg (by decide), if_neg (by decide)]; exact M.2.2
    -- what is behind, moved: its words
    let V : Int → Int → Int := fun a i => if a = 637 then nd T i 1 else if a = 638 then nd T i 5 else i + sz T i + mr
    let G1 : Int → Int → Int := fun a j => if 120 + (x + sz T x) ≤ j ∧ j < 120 + ln T then V a (j - 120) else h1 a j
    let G2 : Int → Int → Int := fun a j => if a = 639 ∧ 0 ≤ j ∧ j < x then (if j + sz T j ≤ x then j + sz T j else j + sz T j + mr) else G1 a j
    let G3 : Int → Int → Int := fun a j => if x + ln D ≤ j ∧ j < ln T + mr then V a (j - mr) else G2 a j
    let G4 : Int → Int → Int := fun a j => if x ≤ j ∧ j < x + ln D then (if a = 637 then nd D (j - x) 1 else if a = 638 then nd D (j - x) 5 else x + (j - x + sz D (j - x))) else G3 a j
    have e17 : h1 608 17 = ln D := N1.1
    have p253 : ∀ (m : Nat) (y : Int) (h2 : Hp), 0 ≤ y → y + m = ln D → r3F h1 h2 (fun a j => if x ≤ j ∧ j < x + y then (if a = 637 then nd D (j - x) 1 else if a = 638 then nd D (j - x) 5 else x + (j - x + sz D (j - x))) else G3 a j) → L0 g (d + 9) m10_change (retI Q) 253 [some (LR 10 608), some (LI x), none, some (LI mr), some (LI y)] h2 := by
      intro m
      induction m with
      | zero =>
        intro y h2 y0 hy R
        have a17 : h2 608 17 = ln D := by rw [R.1 608 (by decide)]; exact e17
        have a42 : h2 608 42 = ln T := by rw [R.1 608 (by decide)]; exact e42
        refine v10_change_253 ⟨fun _ h3 k3 => ?_, fun z => absurd (by rw [a17]; omega) z⟩
        rw [a42, w32_id (by omega) (by omega)] at k3
        have lr := ln_rpl (D := D) c.1 (show 0 ≤ sz T x by omega) s1
        have ye : y = ln D := by omega
        have t3 : mT (rpl T D x (sz T x)) h3 := by
          refine ⟨by rw [k3, hup_at, lr]; omega, fun i i0 i1 => ?_⟩
          rw [lr] at i1
          have en := nd_rpl (D := D) c.1 (show 0 ≤ sz T x by omega) s1 i0
          have es := sz_rpl w wd c.1 c.2 i0 i1
          rw [k3, hup_ne (by decide), hup_ne (by decide), hup_ne (by decide), R.2 637 (by decide) (by decide) i, R.2 638 (by decide) (by decide) i, R.2 639 (by decide) (by decide) i]
          dsimp only
          rw [ye]
          by_cases z1 : i < x
          · rw [if_pos z1] at en es
            rw [if_neg (by omega), if_neg (by omega), if_neg (by omega)]
            dsimp only [G3]
            rw [if_neg (by omega), if_neg (by omega), if_neg (by omega)]
            dsimp only [G2]
            rw [if_neg (by omega), if_neg (by omega), if_pos ⟨rfl, i0, z1⟩]
            dsimp only [G1]
            rw [if_neg (by omega), if_neg (by omega), en, es, tr 637 i (by decide) (by decide) i0 (by omega), tr 638 i (by decide) (by decide) i0 (by omega)]
            refine ⟨rfl, rfl, ?_⟩
            split <;> omega
          · rw [if_neg z1] at en es
            by_cases z2 : i < x + ln D
            · rw [if_pos z2] at en es
              have zz : x ≤ i ∧ i < x + ln D := ⟨by omega, z2⟩
              refine ⟨by rw [if_pos zz, if_pos rfl, en], by rw [if_pos zz, if_neg (by decide), if_pos rfl, en], ?_⟩
              rw [if_pos zz, if_neg (by decide), if_neg (by decide), es]
              omega
            · rw [if_neg z2] at en es
              rw [if_neg (by omega), if_neg (by omega), if_neg (by omega)]
              dsimp only [G3]
              have zz : x + ln D ≤ i ∧ i < ln T + mr := ⟨by omega, by omega⟩
              rw [en, es, show i - ln D + sz T x = i - mr by omega]
              refine ⟨by rw [if_pos zz]; rfl, by rw [if_pos zz]; rfl, ?_⟩
              rw [if_pos zz]
              show i - mr + sz T (i - mr) + mr = _
              omega
        refine m_findUps t3 (by rw [lr]; omega) (fun h4 P4 F4 h5 k5 => ?_)
        have b42 : h5 608 42 = ln (rpl T D x (sz T x)) := by rw [k5, hup_nj (by decide), F4 608 (by decide)]; exact t3.1
        rw [b42]
        refine q1 c.1 c.2 z h5 ⟨fun a b1 b2 b3 => ?_, fun j b1 b2 b3 b4 => ?_, by rw [k5, hup_at]⟩ ?_ ?_ ?_
        · rw [k5, hup_r b1, F4 a (by omega), k3, hup_r b1, R.1 a (by omega)]
          exact F1.1 a b1 b2
        · rw [k5, hup_nj b4, F4 608 (by decide), k3, hup_nj b3, R.1 608 (by decide)]
          exact F1.2 j b1 b2
        · rw [k5, hup_nj (by decide), F4 608 (by decide), k3, hup_nj (by decide), R.1 608 (by decide), t1]
        · rw [k5, hup_nj (by decide), F4 608 (by decide), k3, hup_nj (by decide), R.1 608 (by decide), p1]
        · exact ⟨t3.to (by rw [b42]; exact t3.1.symm) (by rw [k5, hup_r (by decide), F4 637 (by decide)]) (by rw [k5, hup_r (by decide), F4 638 (by decide)]) (by rw [k5, hup_r (by decide), F4 639 (by decide)]), fun i i0 i1 => by rw [k5, hup_ne (by decide)]; exact P4 i i0 i1⟩
      | succ m ih =>
        intro y h2 y0 hy R
        have a17 : h2 608 17 = ln D := by rw [R.1 608 (by decide)]; exact e17
        have N := N1.2 y y0 (by omega)
        have row : ∀ a : Int, 614 ≤ a → a ≤ 622 → h2 a = h1 a := fun a b1 b2 => R.1 a (by omega)
        refine v10_change_253 ⟨fun z => absurd z (by rw [a17]; omega), fun _ => ?_⟩
        rw [w32_id (x := x + y) (by omega) (by omega), w32_id (x := y + 1) (by omega) (by omega)]
        refine ⟨y0, by omega, by omega, by omega, fun h3 k3 h4 k4 h5 k5 => ?_⟩
        have v1 : h2 615 y = nd D y 1 := by rw [row 615 (by decide) (by decide)]; exact N.2.1
        have v2 : h3 616 y = nd D y 5 := by rw [k3, hup_ne (by decide), row 616 (by decide) (by decide), N.2.2.1]; exact okT_n5 od y0 (by omega)
        have v3 : h4 622 y = y + sz D y := by rw [k4, hup_ne (by decide), k3, hup_ne (by decide), row 622 (by decide) (by decide)]; exact E1 y y0 (by omega)
        have sD := sz_le (L := D) y0 (by omega)
        have pD := sz_pos (L := D) y0 (by omega)
        rw [v3, w32_id (by omega) (by omega)] at k5
        refine ih (y + 1) h5 (by omega) (by omega) (r3_3 R k3 k4 k5 (fun a j a0 a1 => ?_))
        rw [v1, v2]
        try dsimp only
        by_cases cj : j = x + y
        · subst cj
          rw [if_pos ⟨by omega, by omega⟩, if_pos rfl, show x + y - x = y by omega]
        · rw [if_neg cj]
          by_cases c2 : x ≤ j ∧ j < x + y
          · rw [if_pos c2, if_pos ⟨c2.1, by omega⟩]
          · rw [if_neg c2, if_neg (by omega)]
    have p178 : ∀ (m : Nat) (y : Int) (h2 : Hp), x + sz T x ≤ y → y + m = ln T → r3F h1 h2 (fun a j => if x + ln D ≤ j ∧ j < y + mr then V a (j - mr) else G2 a j) → L0 g (d + 9) m10_change (retI Q) 178 [some (LR 10 608), some (LI x), none, some (LI mr), some (LI y)] h2 := by
      intro m
      induction m with
      | zero =>
        intro y h2 y0 hy R
        have a42 : h2 608 42 = ln T := by rw [R.1 608 (by decide)]; exact e42
        refine v10_change_178 ⟨fun _ => p253 (ln D).toNat 0 h2 (by decide) (by omega) ⟨R.1, fun a a0 a1 j => ?_⟩, fun z => absurd (by rw [a42]; omega) z⟩
        rw [R.2 a a0 a1 j]
        dsimp only
        rw [if_neg (show ¬ (x ≤ j ∧ j < x + 0) by omega), show y = ln T by omega]
      | succ m ih =>
        intro y h2 y0 hy R
        have a42 : h2 608 42 = ln T := by rw [R.1 608 (by decide)]; exact e42
        refine v10_change_178 ⟨fun z => absurd z (by rw [a42]; omega), fun _ => ?_⟩
        rw [w32_id (x := 120 + y) (by omega) (by omega), w32_id (x := y + mr) (by omega) (by omega), w32_id (x := y + 1) (by omega) (by omega)]
        refine ⟨by omega, by omega, by omega, by omega, fun h3 k3 h4 k4 h5 k5 => ?_⟩
        have src : ∀ a : Int, 637 ≤ a → a ≤ 639 → h2 a (120 + y) = V a y := by
          intro a a0 a1
          rw [R.2 a a0 a1 (120 + y)]
          dsimp only
          rw [if_neg (by omega)]
          dsimp only [G2]
          rw [if_neg (by omega)]
          dsimp only [G1]
          rw [if_pos ⟨by omega, by omega⟩, show 120 + y - 120 = y by omega]
        have v1 : h2 637 (120 + y) = V 637 y := src 637 (by decide) (by decide)
        have v2 : h3 638 (120 + y) = V 638 y := by rw [k3, hup_ne (by decide)]; exact src 638 (by decide) (by decide)
        have v3 : h4 639 (120 + y) = V 639 y := by rw [k4, hup_ne (by decide), k3, hup_ne (by decide)]; exact src 639 (by decide) (by decide)
        refine ih (y + 1) h5 (by omega) (by omega) (r3_3 R k3 k4 k5 (fun a j a0 a1 => ?_))
        rw [v1, v2, v3]
        try dsimp only
        have aa : a = 637 ∨ a = 638 ∨ a = 639 := by omega
        by_cases cj : j = y + mr
        · rw [if_pos ⟨by omega, by omega⟩, if_pos cj, show j - mr = y by omega]
          rcases aa with rfl | rfl | rfl
          · rw [if_pos rfl]
          · rw [if_neg (by decide), if_pos rfl]
          · rw [if_neg (by decide), if_neg (by decide)]
        · rw [if_neg cj]
          by_cases c2 : x + ln D ≤ j ∧ j < y + mr
          · rw [if_pos c2, if_pos ⟨c2.1, by omega⟩]
          · rw [if_neg c2, if_neg (by omega)]
    have p135 : ∀ (m : Nat) (y : Int) (h2 : Hp), 0 ≤ y → y + m = x → r3F h1 h2 (fun a j => if a = 639 ∧ 0 ≤ j ∧ j < y then (if j + sz T j ≤ x then j + sz T j else j + sz T j + mr) else G1 a j) → L0 g (d + 9) m10_change (retI Q) 135 [some (LR 10 608), some (LI x), some (LI (sz T x)), some (LI mr), some (LI y)] h2 := by
      intro m
      induction m with
      | zero =>
        intro y h2 y0 hy R
        refine v10_change_135 ⟨fun _ => ?_, fun z => absurd (by omega) z⟩
        rw [w32_id (x := x + sz T x) (by omega) (by omega)]
        refine p178 (ln T - (x + sz T x)).toNat (x + sz T x) h2 (by omega) (by omega) ⟨R.1, fun a a0 a1 j => ?_⟩
        rw [R.2 a a0 a1 j]
        dsimp only
        rw [if_neg (show ¬ (x + ln D ≤ j ∧ j < x + sz T x + mr) by omega), show y = x by omega]
      | succ m ih =>
        intro y h2 y0 hy R
        have ey : h2 639 y = y + sz T y := by
          rw [R.2 639 (by decide) (by decide) y]
          dsimp only
          rw [if_neg (by omega)]
          dsimp only [G1]
          rw [if_neg (by omega), tr 639 y (by decide) (by decide) y0 (by omega), if_neg (by decide), if_neg (by decide)]
        have sy := sz_le (L := T) y0 (by omega)
        have py := sz_pos (L := T) y0 (by omega)
        have nx : ∀ (v : Int) (h3 : Hp), h3 = hup h2 639 y v → v = (if y + sz T y ≤ x then y + sz T y else y + sz T y + mr) → L0 g (d + 9) m10_change (retI Q) 135 [some (LR 10 608), some (LI x), some (LI (sz T x)), some (LI mr), some (LI (y + 1))] h3 := by
          intro v h3 k3 hv
          refine ih (y + 1) h3 (by omega) (by omega) ⟨fun a ha => by rw [k3, hup_r (by omega)]; exact R.1 a ha, fun a a0 a1 j => ?_⟩
          dsimp only
          by_cases ca : a = 639
          · subst ca
            by_cases cj : j = y
            · subst cj
              rw [k3, hup_at, if_pos ⟨rfl, y0, by omega⟩, hv]
            · rw [k3, hup_nj cj, R.2 639 (by decide) (by decide) j]
              dsimp only
              by_cases c2 : 0 ≤ j ∧ j < y
              · rw [if_pos (show (639 : Int) = 639 ∧ 0 ≤ j ∧ j < y from ⟨rfl, c2⟩), if_pos (show (639 : Int) = 639 ∧ 0 ≤ j ∧ j < y + 1 from ⟨rfl, c2.1, by omega⟩)]
              · rw [if_neg (fun z => c2 z.2), if_neg (by omega)]
          · rw [k3, hup_ne ca, R.2 a a0 a1 j]
            dsimp only
            rw [if_neg (fun z => ca z.1), if_neg (fun z => ca z.1)]
        refine v10_change_135 ⟨fun z => absurd z (by omega), fun _ => ?_⟩
        rw [ey, w32_id (x := y + 1) (by omega) (by omega), w32_id (x := y + sz T y + 0) (by omega) (by omega), w32_id (x := y + sz T y + mr) (by omega) (by omega)]
        exact ⟨y0, by omega, fun c1 h3 k3 => nx _ h3 k3 (by rw [if_pos c1]; omega), fun c1 h3 k3 => nx _ h3 k3 (by rw [if_neg c1])⟩
    have p65 : ∀ (m : Nat) (y : Int) (h2 : Hp), y + 1 = x + sz T x + m → y < ln T → r3F h1 h2 (fun a j => if 120 + y < j ∧ j < 120 + ln T then V a (j - 120) else h1 a j) → L0 g (d + 9) m10_change (retI Q) 65 [some (LR 10 608), some (LI x), some (LI (sz T x)), some (LI mr), some (LI y)] h2 := by
      intro m
      induction m with
      | zero =>
        intro y h2 hy yl R
        refine v10_change_65 ⟨fun _ => p135 x.toNat 0 h2 (by decide) (by omega) ⟨R.1, fun a a0 a1 j => ?_⟩, fun z => absurd (by rw [w32_id (by omega) (by omega)]; omega) z⟩
        rw [R.2 a a0 a1 j]
        dsimp only
        rw [if_neg (show ¬ (a = 639 ∧ 0 ≤ j ∧ j < 0) by omega)]
        dsimp only [G1]
        by_cases cj : 120 + (x + sz T x) ≤ j ∧ j < 120 + ln T
        · rw [if_pos ⟨by omega, cj.2⟩, if_pos cj]
        · rw [if_neg (by omega), if_neg cj]
      | succ m ih =>
        intro y h2 hy yl R
        refine v10_change_65 ⟨fun z => absurd z (by rw [w32_id (by omega) (by omega)]; omega), fun _ => ?_⟩
        rw [w32_id (x := 120 + y) (by omega) (by omega), w32_id (x := y + -1) (by omega) (by omega)]
        refine ⟨by omega, by omega, by omega, by omega, fun h3 k3 h4 k4 h5 k5 => ?_⟩
        have src : ∀ a : Int, 637 ≤ a → a ≤ 639 → h2 a y = if a = 637 then nd T y 1 else if a = 638 then nd T y 5 else y + sz T y := by
          intro a a0 a1
          rw [R.2 a a0 a1 y]
          dsimp only
          rw [if_neg (by omega)]
          exact tr a y a0 a1 (by omega) yl
        have v1 : h2 637 y = nd T y 1 := src 637 (by decide) (by decide)
        have v2 : h3 638 y = nd T y 5 := by rw [k3, hup_ne (by decide)]; exact src 638 (by decide) (by decide)
        have v3 : h4 639 y = y + sz T y := by rw [k4, hup_ne (by decide), k3, hup_ne (by decide)]; exact src 639 (by decide) (by decide)
        have sy := sz_le (L := T) (i := y) (by omega) yl
        have py := sz_pos (L := T) (i := y) (by omega) yl
        rw [v3, w32_id (by omega) (by omega)] at k5
        refine ih (y + -1) h5 (by omega) (by omega) (r3_3 R k3 k4 k5 (fun a j a0 a1 => ?_))
        rw [v1, v2]
        try dsimp only
        by_cases cj : j = 120 + y
        · rw [if_pos ⟨by omega, by omega⟩, if_pos cj, show j - 120 = y by omega]
        · rw [if_neg cj]
          by_cases c2 : 120 + y < j ∧ j < 120 + ln T
          · rw [if_pos c2, if_pos ⟨by omega, c2.2⟩]
          · rw [if_neg c2, if_neg (by omega)]
    exact p65 (ln T - (x + sz T x)).toNat (ln T - 1) h1 (by omega) (by omega) ⟨fun _ _ => rfl, fun a a0 a1 j => by dsimp only; rw [if_neg (by omega)]⟩
  · rw [f1]
    refine bn (fun z2 => absurd z2 z) (fun _ => ?_)
    rw [w32_id (by have := r.2.2.1; have := r.2.2.2.1; omega) (by have := r.2.2.1; omega)]
    exact q2 c.1 c.2 z h1 F1 t1 p1
end
