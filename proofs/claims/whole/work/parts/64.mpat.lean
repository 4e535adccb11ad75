/-! PATTERNS, the model -/
def mPt (p : Int) (L : NL) (h : Hp) : Prop := h 627 p = ln L ∧ ∀ i : Int, 0 ≤ i → i < ln L → h 628 (24 * p + i) = nd L i 0 ∧ h 629 (24 * p + i) = nd L i 1 ∧ h 630 (24 * p + i) = (if nd L i 0 = 1 then nd L i 5 else 0) ∧ h 631 (24 * p + i) = nd L i 3 ∧ h 632 (24 * p + i) = nd L i 2 ∧ h 633 (24 * p + i) = nd L i 4 ∧ (nd L i 4 = 1 → h 634 (24 * p + i) = nd L i 5 ∧ h 635 (24 * p + i) = nd L i 6) ∧ h 636 (24 * p + i) = i + sz L i
def mPS (P : Ps) (h : Hp) : Prop := ∀ p : Int, 0 ≤ p → p < 40 → h 625 p = (P p).1 ∧ ((P p).1 = 1 → h 626 p = (P p).2.1 ∧ mPt p (P p).2.2 h)
theorem mPt.to {p : Int} {L : NL} {h h' : Hp} (H : mPt p L h) (e : ∀ a : Int, 627 ≤ a → a ≤ 636 → h' a = h a) : mPt p L h' := by
  unfold mPt at *
  rw [e 627 (by decide) (by decide), e 628 (by decide) (by decide), e 629 (by decide) (by decide), e 630 (by decide) (by decide), e 631 (by decide) (by decide), e 632 (by decide) (by decide), e 633 (by decide) (by decide), e 634 (by decide) (by decide), e 635 (by decide) (by decide), e 636 (by decide) (by decide)]
  exact H
theorem mPS.to {P : Ps} {h h' : Hp} (H : mPS P h) (e : ∀ a : Int, 625 ≤ a → a ≤ 636 → h' a = h a) : mPS P h' := fun p p0 p1 => by
  have := H p p0 p1
  exact ⟨by rw [e 625 (by decide) (by decide)]; exact this.1, fun z => ⟨by rw [e 626 (by decide) (by decide)]; exact (this.2 z).1, (this.2 z).2.to (fun a a0 a1 => e a (by omega) a1)⟩⟩
/-- rows 628 .. 636 at a place -/
theorem r9_at {h2 h3 h4 h5 h6 h7 h8 h9 h10 h11 : Hp} {y v1 v2 v3 v4 v5 v6 v7 v8 v9 : Int} (e1 : h3 = hup h2 628 y v1) (e2 : h4 = hup h3 629 y v2) (e3 : h5 = hup h4 630 y v3) (e4 : h6 = hup h5 631 y v4) (e5 : h7 = hup h6 632 y v5) (e6 : h8 = hup h7 633 y v6) (e7 : h9 = hup h8 634 y v7) (e8 : h10 = hup h9 635 y v8) (e9 : h11 = hup h10 636 y v9) : h11 628 y = v1 ∧ h11 629 y = v2 ∧ h11 630 y = v3 ∧ h11 631 y = v4 ∧ h11 632 y = v5 ∧ h11 633 y = v6 ∧ h11 634 y = v7 ∧ h11 635 y = v8 ∧ h11 636 y = v9 ∧ (∀ a j : Int, j ≠ y → h11 a j = h2 a j) ∧ ∀ a : Int, ¬ (628 ≤ a ∧ a ≤ 636) → h11 a = h2 a := by
  subst e1
  subst e2
  subst e3
  subst e4
  subst e5
  subst e6
  subst e7
  subst e8
  subst e9
  refine ⟨?_, ?_, ?_, ?_, ?_, ?_, ?_, ?_, ?_, fun a j hj => ?_, fun a ha => ?_⟩
  · rw [hup_ne (by decide), hup_ne (by decide), hup_ne (by decide), hup_ne (by decide), hup_ne (by decide), hup_ne (by decide), hup_ne (by decide), hup_ne (by decide), hup_at]
  · rw [hup_ne (by decide), hup_ne (by decide), hup_ne (by decide), hup_ne (by decide), hup_ne (by decide), hup_ne (by decide), hup_ne (by decide), hup_at]
  · rw [hup_ne (by decide), hup_ne (by decide), hup_ne (by decide), hup_ne (by decide), hup_ne (by decide), hup_ne (by decide), hup_at]
  · rw [hup_ne (by decide), hup_ne (by decide), hup_ne (by decide), hup_ne (by decide), hup_ne (by decide), hup_at]
  · rw [hup_ne (by decide), hup_ne (by decide), hup_ne (by decide), hup_ne (by decide), hup_at]
  · rw [hup_ne (by decide), hup_ne (by decide), hup_ne (by decide), hup_at]
  · rw [hup_ne (by decide), hup_ne (by decide), hup_at]
  · rw [hup_ne (by decide), hup_at]
  · rw [hup_at]
  · rw [hup_nj hj, hup_nj hj, hup_nj hj, hup_nj hj, hup_nj hj, hup_nj hj, hup_nj hj, hup_nj hj, hup_nj hj]
  · rw [hup_r (by omega), hup_r (by omega), hup_r (by omega), hup_r (by omega), hup_r (by omega), hup_r (by omega), hup_r (by omega), hup_r (by omega), hup_r (by omega)]
section
variable {g : Gl} {d : Nat} {h : Hp} {E : Ev} {B : Int → Int} {n : Int} {P : Ps} {Q : Int → Hp → Prop}
theorem y_noPattern (op : okP E P) (mp : mPS P h) {x : Int} (q : Q (cb (¬ (0 ≤ x ∧ x < 40 ∧ (P x).1 = 1))) h) : Good g (d + 2) i10_noPattern [LR 10 608, LI x] S0 h S0 (retI Q) := by
  refine g10_noPattern (fun _ => v10_noPattern (m_in (bz (fun c => ?_) (fun c => ⟨c.1, by omega, fun _ => ?_⟩))))
  · rwa [cb_t (fun z => c ⟨z.1, by omega⟩)] at q
  · have o := (op x c.1 (by omega)).1
    rw [(mp x c.1 (by omega)).1]
    refine ⟨fun z => ?_, fun z => ?_⟩
    · rwa [cb_f (fun w => w ⟨c.1, by omega, by omega⟩)] at q
    · rwa [cb_t (fun w => by omega)] at q
theorem prs_b (op : okP E P) : ∀ k : Nat, k ≤ 40 → 0 ≤ cntF (fun p => (P p).1) k ∧ cntF (fun p => (P p).1) k ≤ k ∧ ((∃ p : Int, 0 ≤ p ∧ p < k ∧ (P p).1 = 0) → cntF (fun p => (P p).1) k < k) ∧ ((∀ p : Int, 0 ≤ p → p < k → (P p).1 ≠ 0) → cntF (fun p => (P p).1) k = k) := by
  intro k
  induction k with
  | zero => intro _; exact ⟨by simp [cntF], by simp [cntF], fun ⟨p, a, b, _⟩ => by omega, fun _ => rfl⟩
  | succ k ih =>
    intro hk
    obtain ⟨a1, a2, a3, a4⟩ := ih (by omega)
    have o := (op k (by omega) (by omega)).1
    simp only [cntF]
    refine ⟨by omega, by omega, fun ⟨p, b0, b1, b2⟩ => ?_, fun z => ?_⟩
    · by_cases c : p = k
      · subst c; omega
      · have := a3 ⟨p, b0, by omega, b2⟩
        omega
    · have := a4 (fun p p0 p1 => z p p0 (by omega))
      have := z k (by omega) (by omega)
      omega
theorem prs_set {v : Int × Int × NL} {p : Int} (p0 : 0 ≤ p) : ∀ k : Nat, cntF (fun q => (pset P p v q).1) k = cntF (fun q => (P q).1) k + if p < k then v.1 - (P p).1 else 0
  | 0 => by rw [if_neg (by omega)]; simp [cntF]
  | k + 1 => by
    have ih := prs_set (v := v) p0 k
    simp only [cntF]
    rw [ih]
    by_cases c : p = k
    · subst c
      rw [pset_at, if_neg (by omega), if_pos (by omega)]
      omega
    · rw [pset_ne (by omega)]
      by_cases c2 : p < k
      · rw [if_pos c2, if_pos (by omega)]; omega
      · rw [if_neg c2, if_neg (by omega)]; omega
/-- what a new pattern leaves as it was -/
def mFrP (h h' : Hp) : Prop := (∀ a : Int, a ≠ 608 → ¬ (614 ≤ a ∧ a ≤ 636) → h' a = h a) ∧ (∀ j : Int, (j < 17 ∨ 28 < j) → j ≠ 7 → j ≠ 41 → j ≠ 47 → h' 608 j = h 608 j) ∧ h' 608 47 = 0
theorem y_pattern (ok : okE E) (op : okP E P) (me : mE E h) (mx : mX B n h) (mp : mPS P h) (mc : h 608 41 = prs P) {rk : Int} (q0 : ¬ (0 ≤ rk ∧ rk ≤ 1000) → Q (-1002) h) (q1 : 0 ≤ rk → rk ≤ 1000 → frF P 40 0 = -1 → Q (-1004) h)
    (q2 : 0 ≤ rk → rk ≤ 1000 → frF P 40 0 ≠ -1 → (rdA E B n true 24).1 ≠ 0 → ∀ h' : Hp, mFr h h' → h' 608 7 = 0 → h' 608 23 = (rdA E B n true 24).2.1 → Q (-10 - (rdA E B n true 24).1) h')
    (q3 : 0 ≤ rk → rk ≤ 1000 → frF P 40 0 ≠ -1 → (rdA E B n true 24).1 = 0 → ∀ h' : Hp, mFrP h h' → h' 608 7 = 0 → h' 608 23 = -1 → mPS (pset P (frF P 40 0) (1, rk, (rdA E B n true 24).2.2)) h' → h' 608 41 = prs (pset P (frF P 40 0) (1, rk, (rdA E B n true 24).2.2)) → Q (frF P 40 0) h') : Good g (d + 10) i10_pattern [LR 10 608, LI rk] S0 h S0 (retI Q) := by
  have n0 := mx.2.1
  refine g10_pattern (fun _ => v10_pattern (m_in (bn (fun c => ?_) q0)))
  have fp := frF_p (P := P) 40 0 (by decide)
  obtain ⟨b1, b2, b3, b4⟩ := prs_b op 40 (by decide)
  have e40 : frF P 40 0 = -1 ↔ prs P = 40 := by
    constructor
    · intro z
      rcases fp with ⟨_, w⟩ | ⟨w, _⟩
      · exact b4 (fun p p0 p1 => w p p0 (by omega))
      · omega
    · intro z
      rcases fp with ⟨w, _⟩ | ⟨w0, w1, w2, _⟩
      · exact w
      · have := b3 ⟨_, w0, by omega, w2⟩
        unfold prs at z
        omega
  rw [mc]
  refine ⟨fun c2 => ?_, fun c2 => q1 c.1 c.2 (e40.mpr c2)⟩
  have c3 : frF P 40 0 ≠ -1 := fun z => c2 (e40.mp z)
  have r := rdA_ok (B := B) (n := n) (ip := true) (mo := 24) ok n0 (by decide)
  have X := m_read (g := g) (d := d) (h := h) (E := E) (B := B) (n := n) (ip := true) (mo := 24) (Q := fun h6 => Good g (d + 9) i10_fine [LR 10 608] S0 h6 S0 (retI (fun r10 h8 => ((¬ r10 = 0 → L0 g (d + 9) m10_pattern (retI Q) 53 [some (LR 10 608), some (LI rk), some (LI 0), none, none] h8) ∧ (r10 = 0 → Q (w32 ((-10) - (h8 608 21))) h8))))) ok me mx (by decide) (by decide) (fun z h1 F1 t1 p1 f1 N1 E1 => m_fine ?_) (fun z h1 F1 t1 p1 f1 => m_fine ?_)
  · rwa [show cb (true = true) = 1 from cb_t rfl] at X
  · rw [f1]
    refine bn (fun _ => ?_) (fun z => absurd rfl z)
    obtain ⟨od, wd, ld⟩ := rdA_okP (B := B) (n := n) (ip := true) ok n0 (by decide) z
    generalize (rdA E B n true 24).2.2 = D at *
    generalize hp : frF P 40 0 = p at *
    have pp : 0 ≤ p ∧ p < 40 ∧ (P p).1 = 0 ∧ ∀ x : Int, 0 ≤ x → x < p → (P x).1 ≠ 0 := by
      rcases fp with ⟨w, _⟩ | ⟨w0, w1, w2, w3⟩
      · exact absurd w c3
      · exact ⟨w0, by omega, w2, w3⟩
    have d0 := ln_nn D
    have mp1 : mPS P h1 := mp.to (fun a a0 a1 => F1.1 a (by omega) (by omega))
    have e41 : h1 608 41 = prs P := by rw [F1.2 41 (by decide) (by decide)]; exact mc
    have copy : ∀ (m : Nat) (y : Int) (h2 : Hp), 0 ≤ y → y + m = ln D → (∀ a : Int, ¬ (625 ≤ a ∧ a ≤ 636) → h2 a = h1 a) → (∀ x : Int, x ≠ p → h2 625 x = h1 625 x ∧ h2 626 x = h1 626 x ∧ h2 627 x = h1 627 x) → h2 625 p = 1 → h2 626 p = rk → h2 627 p = ln D → (∀ a j : Int, 628 ≤ a → a ≤ 636 → ¬ (24 * p ≤ j ∧ j < 24 * p + 24) → h2 a j = h1 a j) → (∀ i : Int, 0 ≤ i → i < y → h2 628 (24 * p + i) = nd D i 0 ∧ h2 629 (24 * p + i) = nd D i 1 ∧ h2 630 (24 * p + i) = (if nd D i 0 = 1 then nd D i 5 else 0) ∧ h2 631 (24 * p + i) = nd D i 3 ∧ h2 632 (24 * p + i) = nd D i 2 ∧ h2 633 (24 * p + i) = nd D i 4 ∧ (nd D i 4 = 1 → h2 634 (24 * p + i) = nd D i 5 ∧ h2 635 (24 * p + i) = nd D i 6) ∧ h2 636 (24 * p + i) = i + sz D i) → L0 g (d + 9) m10_pattern (retI Q) 94 [some (LR 10 608), none, some (LI p), some (LI y), none] h2 := by
      intro m
      induction m with
      | zero =>
        intro y h2 y0 hy F2 O2 v25 v26 v27 R2 N2
        have e17 : h2 608 17 = ln D := by rw [F2 608 (by decide)]; exact N1.1
        refine v10_pattern_94 ⟨fun _ h3 k3 h4 k4 => ?_, fun z => absurd (by rw [e17]; omega) z⟩
        have a41 : h2 608 41 = prs P := by rw [F2 608 (by decide)]; exact e41
        have lt : prs P < 40 := b3 ⟨p, pp.1, by omega, pp.2.2.1⟩
        have ge : 0 ≤ prs P := b1
        rw [a41, w32_id (by omega) (by omega)] at k3
        have row : ∀ a : Int, a ≠ 608 → h4 a = h2 a := fun a ha => by rw [k4, hup_r ha, k3, hup_r ha]
        refine q3 c.1 c.2 c3 z h4 ⟨fun a c1 c2 => by rw [row a c1, F2 a (by omega)]; exact F1.1 a c1 (by omega), fun j b1 b2 b3 b4 => by rw [k4, hup_nj b4, k3, hup_nj b3, F2 608 (by decide)]; exact F1.2 j b1 b2, by rw [k4, hup_at]⟩ (by rw [k4, hup_nj (by decide), k3, hup_nj (by decide), F2 608 (by decide)]; exact t1) (by rw [k4, hup_nj (by decide), k3, hup_nj (by decide), F2 608 (by decide)]; exact p1) (fun p' p0' p1' => ?_) ?_
        · by_cases cq : p' = p
          · subst cq
            rw [pset_at]
            refine ⟨by rw [row 625 (by decide)]; exact v25, fun _ => ⟨by rw [row 626 (by decide)]; exact v26, ?_⟩⟩
            have : mPt p' D h2 := ⟨v27, fun i i0 i1 => N2 i i0 (by omega)⟩
            exact this.to (fun a a0 a1 => row a (by omega))
          · rw [pset_ne cq]
            have M := mp1 p' p0' p1'
            have o := O2 p' cq
            refine ⟨by rw [row 625 (by decide), o.1]; exact M.1, fun zz => ⟨by rw [row 626 (by decide), o.2.1]; exact (M.2 zz).1, ?_⟩⟩
            have M2 := (M.2 zz).2
            have l24 := (op p' p0' p1').2.1
            refine ⟨by rw [row 627 (by decide), o.2.2]; exact M2.1, fun i i0 i1 => ?_⟩
            have ne : ∀ a : Int, 628 ≤ a → a ≤ 636 → h4 a (24 * p' + i) = h1 a (24 * p' + i) := fun a a0 a1 => by rw [row a (by omega)]; exact R2 a _ a0 a1 (by omega)
            rw [ne 628 (by decide) (by decide), ne 629 (by decide) (by decide), ne 630 (by decide) (by decide), ne 631 (by decide) (by decide), ne 632 (by decide) (by decide), ne 633 (by decide) (by decide), ne 634 (by decide) (by decide), ne 635 (by decide) (by decide), ne 636 (by decide) (by decide)]
            exact M2.2 i i0 i1
        · rw [k4, hup_nj (by decide), k3, hup_at]
          have := prs_set (P := P) (v := (1, rk, D)) pp.1 40
          unfold prs
          rw [this, if_pos (by omega), pp.2.2.1]
          omega
      | succ m ih =>
        intro y h2 y0 hy F2 O2 v25 v26 v27 R2 N2
        have e17 : h2 608 17 = ln D := by rw [F2 608 (by decide)]; exact N1.1
        have N := N1.2 y y0 (by omega)
        have src : ∀ a : Int, 614 ≤ a → a ≤ 622 → h2 a = h1 a := fun a a0 a1 => F2 a (by omega)
        refine v10_pattern_94 ⟨fun z => absurd z (by rw [e17]; omega), fun _ => ?_⟩
        rw [w32_id (x := 24 * p) (by omega) (by omega), w32_id (x := 24 * p + y) (by omega) (by omega), w32_id (x := y + 1) (by omega) (by omega)]
        refine ⟨y0, by omega, by omega, by omega, fun h4 k4 h5 k5 h6 k6 h7 k7 h8 k8 _ h10 k10 h11 k11 h12 k12 h13 k13 => ?_⟩
        have V := r9_at k4 k5 k6 k7 k8 k10 k11 k12 k13
        have s1 : h2 614 y = nd D y 0 := by rw [src 614 (by decide) (by decide)]; exact N.1
        have s2 : h4 615 y = nd D y 1 := by rw [k4, hup_ne (by decide), src 615 (by decide) (by decide)]; exact N.2.1
        have s3 : h5 616 y = (if nd D y 0 = 1 then nd D y 5 else 0) := by rw [k5, hup_ne (by decide), k4, hup_ne (by decide), src 616 (by decide) (by decide)]; exact N.2.2.1
        have s4 : h6 617 y = nd D y 3 := by rw [k6, hup_ne (by decide), k5, hup_ne (by decide), k4, hup_ne (by decide), src 617 (by decide) (by decide)]; exact N.2.2.2.1
        have s5 : h7 618 y = nd D y 2 := by rw [k7, hup_ne (by decide), k6, hup_ne (by decide), k5, hup_ne (by decide), k4, hup_ne (by decide), src 618 (by decide) (by decide)]; exact N.2.2.2.2.1
        have s6 : h8 619 y = nd D y 4 := by rw [k8, hup_ne (by decide), k7, hup_ne (by decide), k6, hup_ne (by decide), k5, hup_ne (by decide), k4, hup_ne (by decide), src 619 (by decide) (by decide)]; exact N.2.2.2.2.2.1
        have s7 : h10 620 y = h1 620 y := by rw [k10, hup_ne (by decide), k8, hup_ne (by decide), k7, hup_ne (by decide), k6, hup_ne (by decide), k5, hup_ne (by decide), k4, hup_ne (by decide), src 620 (by decide) (by decide)]
        have s8 : h11 621 y = h1 621 y := by rw [k11, hup_ne (by decide), k10, hup_ne (by decide), k8, hup_ne (by decide), k7, hup_ne (by decide), k6, hup_ne (by decide), k5, hup_ne (by decide), k4, hup_ne (by decide), src 621 (by decide) (by decide)]
        have s9 : h12 622 y = y + sz D y := by rw [k12, hup_ne (by decide), k11, hup_ne (by decide), k10, hup_ne (by decide), k8, hup_ne (by decide), k7, hup_ne (by decide), k6, hup_ne (by decide), k5, hup_ne (by decide), k4, hup_ne (by decide), src 622 (by decide) (by decide)]; exact E1 y y0 (by omega)
        obtain ⟨w1, w2, w3, w4, w5, w6, w7, w8, w9, wj, wr⟩ := V
        refine ih (y + 1) h13 (by omega) (by omega) (fun a ha => by rw [wr a (by omega)]; exact F2 a ha) (fun x hx => by rw [wr 625 (by decide), wr 626 (by decide), wr 627 (by decide)]; exact O2 x hx) (by rw [wr 625 (by decide)]; exact v25) (by rw [wr 626 (by decide)]; exact v26) (by rw [wr 627 (by decide)]; exact v27) (fun a j a0 a1 hj => by rw [wj a j (by omega)]; exact R2 a j a0 a1 hj) (fun i i0 i1 => ?_)
        by_cases ci : i = y
        · subst ci
          rw [w1, w2, w3, w4, w5, w6, w7, w8, w9, s1, s2, s3, s4, s5, s6, s7, s8, s9]
          exact ⟨rfl, rfl, rfl, rfl, rfl, rfl, N.2.2.2.2.2.2, rfl⟩
        · rw [wj 628 _ (by omega), wj 629 _ (by omega), wj 630 _ (by omega), wj 631 _ (by omega), wj 632 _ (by omega), wj 633 _ (by omega), wj 634 _ (by omega), wj 635 _ (by omega), wj 636 _ (by omega)]
          exact N2 i i0 (by omega)
    have seek : ∀ (m : Nat) (y : Int), 0 ≤ y → y + m = p → L0 g (d + 9) m10_pattern (retI Q) 53 [some (LR 10 608), some (LI rk), some (LI y), none, none] h1 := by
      intro m
      induction m with
      | zero =>
        intro y y0 hy
        have ey : y = p := by omega
        subst ey
        refine v10_pattern_53 ⟨y0, by omega, fun _ => ?_⟩
        rw [(mp1 y y0 (by omega)).1]
        refine ⟨fun _ h3 k3 h4 k4 h5 k5 => ?_, fun z => absurd pp.2.2.1 z⟩
        have a17 : h4 608 17 = ln D := by rw [k4, hup_ne (by decide), k3, hup_ne (by decide)]; exact N1.1
        rw [a17] at k5
        refine copy (ln D).toNat 0 h5 (by decide) (by omega) (fun a ha => by rw [k5, hup_r (by omega), k4, hup_r (by omega), k3, hup_r (by omega)]) (fun x hx => ⟨by rw [k5, hup_ne (by decide), k4, hup_ne (by decide), k3, hup_nj hx], by rw [k5, hup_ne (by decide), k4, hup_nj hx, k3, hup_ne (by decide)], by rw [k5, hup_nj hx, k4, hup_ne (by decide), k3, hup_ne (by decide)]⟩) (by rw [k5, hup_ne (by decide), k4, hup_ne (by decide), k3, hup_at]) (by rw [k5, hup_ne (by decide), k4, hup_at]) (by rw [k5, hup_at]) (fun a j a0 a1 _ => by rw [k5, hup_ne (by omega), k4, hup_ne (by omega), k3, hup_ne (by omega)]) (fun i i0 i1 => by omega)
      | succ m ih =>
        intro y y0 hy
        refine v10_pattern_53 ⟨y0, by omega, fun _ => ?_⟩
        rw [(mp1 y y0 (by omega)).1, w32_id (by omega) (by omega)]
        exact ⟨fun z => absurd z (pp.2.2.2 y y0 (by omega)), fun _ => ih (y + 1) (by omega) (by omega)⟩
    exact seek p.toNat 0 (by decide) (by omega)
  · rw [f1]
    refine bn (fun z2 => absurd z2 z) (fun _ => ?_)
    rw [w32_id (by have := r.2.2.1; have := r.2.2.2.1; omega) (by have := r.2.2.1; omega)]
    exact q2 c.1 c.2 c3 z h1 F1 t1 p1
def mFrD (h h' : Hp) (p : Int) : Prop := (∀ a : Int, a ≠ 608 → a ≠ 625 → h' a = h a) ∧ (∀ j : Int, j ≠ p → h' 625 j = h 625 j) ∧ (∀ j : Int, j ≠ 41 → j ≠ 47 → h' 608 j = h 608 j) ∧ h' 608 47 = 0
theorem y_drop (op : okP E P) (mp : mPS P h) (mc : h 608 41 = prs P) {x : Int} (q0 : ¬ (0 ≤ x ∧ x < 40 ∧ (P x).1 = 1) → Q (-1001) h) (q1 : 0 ≤ x → x < 40 → (P x).1 = 1 → ∀ h' : Hp, mFrD h h' x → mPS (pset P x (0, (P x).2)) h' → h' 608 41 = prs (pset P x (0, (P x).2)) → Q (prs (pset P x (0, (P x).2))) h') : Good g (d + 3) i10_drop [LR 10 608, LI x] S0 h S0 (retI Q) := by
  refine g10_drop (fun _ => v10_drop (y_noPattern op mp (bz (fun c => ?_) (fun c => q0 c))))
  have c : 0 ≤ x ∧ x < 40 ∧ (P x).1 = 1 := Classical.byContradiction c
  refine ⟨c.1, c.2.1, fun h5 k5 h6 k6 h7 k7 => ?_⟩
  have b := prs_b op 40 (by decide)
  have s := prs_set (P := P) (v := (0, (P x).2)) c.1 40
  rw [if_pos (by omega), c.2.2] at s
  have sb := prs_b (okP_drop op c.1 c.2.1) 40 (by decide)
  have a41 : h5 608 41 = prs P := by rw [k5, hup_ne (by decide)]; exact mc
  have sp : prs (pset P x (0, (P x).2)) = prs P - 1 := by
    unfold prs
    omega
  have b1 : 0 ≤ prs P := b.1
  have b2 : prs P ≤ 40 := b.2.1
  rw [a41, w32_id (by omega) (by omega)] at k6
  have e41 : h7 608 41 = prs (pset P x (0, (P x).2)) := by rw [k7, hup_nj (by decide), k6, hup_at, sp]
  rw [e41]
  refine q1 c.1 c.2.1 c.2.2 h7 ⟨fun a a0 a1 => by rw [k7, hup_r a0, k6, hup_r a0, k5, hup_r a1], fun j hj => by rw [k7, hup_ne (by decide), k6, hup_ne (by decide), k5, hup_nj hj], fun j j0 j1 => by rw [k7, hup_nj j1, k6, hup_nj j0, k5, hup_ne (by decide)], by rw [k7, hup_at]⟩ (fun p' p0' p1' => ?_) e41
  by_cases cq : p' = x
  · subst cq
    rw [pset_at]
    exact ⟨by rw [k7, hup_ne (by decide), k6, hup_ne (by decide), k5, hup_at], fun z => absurd z (by show ¬ (0 : Int) = 1; decide)⟩
  · rw [pset_ne cq]
    have M := mp p' p0' p1'
    refine ⟨by rw [k7, hup_ne (by decide), k6, hup_ne (by decide), k5, hup_nj cq]; exact M.1, fun z => ⟨by rw [k7, hup_ne (by decide), k6, hup_ne (by decide), k5, hup_ne (by decide)]; exact (M.2 z).1, (M.2 z).2.to (fun a a0 a1 => by rw [k7, hup_r (by omega), k6, hup_r (by omega), k5, hup_r (by omega)])⟩⟩
end
