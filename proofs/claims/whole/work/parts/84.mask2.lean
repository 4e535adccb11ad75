/-! ASKING, the model: ask, fit, fillings, filling, asked -/
/-- an answer that was asked -/
def mAs (p : Int) (s : St) (h : Hp) : Prop := h 654 p = (s.2.2.2.length : Nat) ∧ h 655 p = s.1 ∧ h 656 p = s.2.1 ∧ h 657 p = s.2.2.1 ∧ ∀ i : Nat, i < s.2.2.2.length → ∀ k : Int, 0 ≤ k → k < 10 → h 658 (300 * p + (10 * i + k)) = (s.2.2.2.getD i (fun _ => 0)) k
def mAns (E : Ev) (T : NL) (P : Ps) (y : Nat) (h : Hp) : Prop := ∀ p : Int, 0 ≤ p → p < y → (P p).1 = 1 → mAs p (run E (P p).2.2 T false 0) h
def mK (E : Ev) (T : NL) (P : Ps) (A : Int) (h : Hp) : Prop := (A = 0 ∨ A = 1) ∧ h 608 47 = A ∧ (A = 1 → mAns E T P 40 h)
def mFrA (h h' : Hp) : Prop := (∀ a : Int, a ≠ 608 → ¬ (641 ≤ a ∧ a ≤ 658) → h' a = h a) ∧ ∀ j : Int, j ≠ 47 → j ≠ 51 → ¬ (60 ≤ j ∧ j ≤ 64) → j ≠ 66 → h' 608 j = h 608 j
theorem mA.fa {E : Ev} {T : NL} {P : Ps} {h h' : Hp} (H : mA E T P h) (F : mFrA h h') : mA E T P h' := H.to (fun a b0 b1 => F.1 a (by omega) (by omega)) (F.2 0 (by decide) (by decide) (by decide) (by decide)) (F.2 2 (by decide) (by decide) (by decide) (by decide)) (F.2 42 (by decide) (by decide) (by decide) (by decide))
section
variable {g : Gl} {d : Nat} {h : Hp} {E : Ev} {T : NL} {P : Ps} {A : Int} {Q : Int → Hp → Prop}
theorem y_ask (H : mA E T P h) (q0 : T = [] → Q (-1003) h) (q1 : wf T 1 → ∀ h' : Hp, mFrA h h' → mK E T P 1 h' → Q (fitN E T P) h') : Good g (d + 5) i10_ask [LR 10 608] S0 h S0 (retI Q) := by
  obtain ⟨a1, a2, a3, a4, a5, a6⟩ := id H
  refine g10_ask (v10_ask ?_)
  rw [a4.1.1]
  refine ⟨fun c => ?_, fun c => q0 ?_⟩
  · have wT : wf T 1 := by
      rcases a3.2.1 with z | z
      · rw [z] at c; exact absurd rfl c
      · exact z
    have q1 := q1 wT
    have bd : ∀ y : Nat, 0 ≤ cntF (fun q => cb (fX E T P q)) y ∧ cntF (fun q => cb (fX E T P q)) y ≤ y := fun y => cntF_01 (f := fun q => cb (fX E T P q)) (fun q => cb_01 _) y
    have lp : ∀ (m y : Nat) (h2 : Hp), y + m = 40 → mFrA h h2 → mAns E T P y h2 → L0 g (d + 4) m10_ask (retI Q) 15 [some (LR 10 608), some (LI (cntF (fun q => cb (fX E T P q)) y)), some (LI y), none] h2 := by
      intro m
      induction m with
      | zero =>
        intro y h2 hy F K
        have : y = 40 := by omega
        subst this
        refine v10_ask_15 ⟨fun _ h3 k3 => ?_, fun z => absurd (by omega) z⟩
        refine q1 h3 ⟨fun a b1 b2 => by rw [k3, hup_r b1]; exact F.1 a b1 b2, fun j b0 b1 b2 b3 => by rw [k3, hup_nj b0]; exact F.2 j b0 b1 b2 b3⟩ ⟨Or.inr rfl, by rw [k3, hup_at], fun _ p p0 p1 pp => ?_⟩
        have X := K p p0 p1 pp
        unfold mAs at *
        rw [k3, hup_r (by decide), hup_r (by decide), hup_r (by decide), hup_r (by decide), hup_r (by decide)]
        exact X
      | succ m ih =>
        intro y h2 hy F K
        have H2 := H.fa F
        have oy := (a5 y (by omega) (by omega)).1
        have b := bd y
        have cs : cntF (fun q => cb (fX E T P q)) (y + 1) = cntF (fun q => cb (fX E T P q)) y + cb (fX E T P y) := rfl
        refine v10_ask_15 ⟨fun z => absurd z (by omega), fun _ => ⟨by omega, by omega, fun _ => ?_⟩⟩
        rw [(H2.2.2.2.2.2 y (by omega) (by omega)).1]
        refine ⟨fun z => ?_, fun z => ?_⟩
        · rw [w32_id (by omega) (by omega)]
          have X := ih (y + 1) h2 (by omega) F (fun p p0 p1 pp => by
            by_cases cp : p = y
            · rw [cp] at pp; omega
            · exact K p p0 (by omega) pp)
          rw [cs, cb_f (fun w => by have := w.1; omega), Int.add_zero] at X
          exact X
        · have py : (P y).1 = 1 := by omega
          refine m_fitAll (D := d) (H2.h (by omega) (by omega) py wT) (Int.le_refl _) (ln_pos wT) (fun h5 F5 A5 h7 k7 h8 k8 => ?_)
          have rk := run_ok (E := E) (P := (P y).2.2) (T := T) (t := 0) (fo := false)
          have xi : fX E T P y ↔ 0 < (run E (P y).2.2 T false 0).2.2.2.length := by
            unfold fX ftT
            omega
          generalize hs : run E (P y).2.2 T false 0 = s at *
          obtain ⟨A1, A2, A3, A4, A5⟩ := A5
          rw [A4] at k7
          have e61 : h7 608 61 = s.1 := by rw [k7, hup_r (by decide)]; exact A1
          rw [e61] at k8
          have e62 : h8 608 62 = s.2.1 := by rw [k8, hup_r (by decide), k7, hup_r (by decide)]; exact A2
          rw [e62]
          refine fun _ h10 k10 => ?_
          have e63 : h10 608 63 = s.2.2.1 := by rw [k10, hup_r (by decide), k8, hup_r (by decide), k7, hup_r (by decide)]; exact A3
          rw [e63]
          refine fun _ h12 k12 => ?_
          have low : ∀ a : Int, ¬ (654 ≤ a ∧ a ≤ 657) → h12 a = h5 a := fun a ha => by rw [k12, hup_r (by omega), k10, hup_r (by omega), k8, hup_r (by omega), k7, hup_r (by omega)]
          have col : ∀ a j : Int, j ≠ y → h12 a j = h5 a j := fun a j hj => by rw [k12, hup_nj hj, k10, hup_nj hj, k8, hup_nj hj, k7, hup_nj hj]
          have v4 : h12 654 y = (s.2.2.2.length : Nat) := by rw [k12, hup_ne (by decide), k10, hup_ne (by decide), k8, hup_ne (by decide), k7, hup_at]
          have v5 : h12 655 y = s.1 := by rw [k12, hup_ne (by decide), k10, hup_ne (by decide), k8, hup_at]
          have v6 : h12 656 y = s.2.1 := by rw [k12, hup_ne (by decide), k10, hup_at]
          have v7 : h12 657 y = s.2.2.1 := by rw [k12, hup_at]
          have l30 := rk.2.2.2.2
          have lq : ∀ (m2 k : Nat) (h9 : Hp), k + m2 = 10 * s.2.2.2.length → (∀ a : Int, a ≠ 658 → h9 a = h12 a) → (∀ i : Int, ¬ (300 * (y : Int) ≤ i ∧ i < 300 * (y : Int) + 300) → h9 658 i = h12 658 i) → (∀ i : Int, 0 ≤ i → i < k → h9 658 (300 * (y : Int) + i) = h5 652 i) → L0 g (d + 4) m10_ask (retI Q) 78 [some (LR 10 608), some (LI (cntF (fun q => cb (fX E T P q)) y)), some (LI y), some (LI k)] h9 := by
            intro m2
            induction m2 with
            | zero =>
              intro k h9 hk F9 O9 R9
              have e64 : h9 608 64 = (s.2.2.2.length : Nat) := by rw [F9 608 (by decide), low 608 (by decide)]; exact A4
              have G9 : mFrA h h9 := ⟨fun a c1 c2 => by rw [F9 a (by omega), low a (by omega), F5.1 a c1 (by omega)]; exact F.1 a c1 c2, fun j c0 c1 c2 c3 => by rw [F9 608 (by decide), low 608 (by decide), F5.2 j c1 c2 c3]; exact F.2 j c0 c1 c2 c3⟩
              have X := ih (y + 1) h9 (by omega) G9 (fun p p0 p1 pp => by
                by_cases cp : p = y
                · subst cp
                  rw [hs]
                  refine ⟨by rw [F9 654 (by decide)]; exact v4, by rw [F9 655 (by decide)]; exact v5, by rw [F9 656 (by decide)]; exact v6, by rw [F9 657 (by decide)]; exact v7, fun i hi k b0 b1 => ?_⟩
                  rw [R9 _ (by omega) (by omega)]
                  exact A5 i hi k b0 b1
                · have op := K p p0 (by omega) pp
                  have lp30 := (run_ok (E := E) (P := (P p).2.2) (T := T) (t := 0) (fo := false)).2.2.2.2
                  have e5 : ∀ a : Int, 654 ≤ a → a ≤ 658 → h5 a = h2 a := fun a b0 b1 => F5.1 a (by omega) (by omega)
                  refine ⟨by rw [F9 654 (by decide), col 654 p cp, e5 654 (by decide) (by decide)]; exact op.1, by rw [F9 655 (by decide), col 655 p cp, e5 655 (by decide) (by decide)]; exact op.2.1, by rw [F9 656 (by decide), col 656 p cp, e5 656 (by decide) (by decide)]; exact op.2.2.1, by rw [F9 657 (by decide), col 657 p cp, e5 657 (by decide) (by decide)]; exact op.2.2.2.1, fun i hi k b0 b1 => ?_⟩
                  rw [O9 _ (by omega), low 658 (by decide), e5 658 (by decide) (by decide)]
                  exact op.2.2.2.2 i hi k b0 b1)
              refine v10_ask_78 ?_
              rw [e64, w32_id (x := 10 * ((s.2.2.2.length : Nat) : Int)) (by omega) (by omega), w32_id (x := (y : Int) + 1) (by omega) (by omega), w32_id (x := cntF (fun q => cb (fX E T P q)) y + 0) (by omega) (by omega), w32_id (x := cntF (fun q => cb (fX E T P q)) y + 1) (by omega) (by omega)]
              rw [cs] at X
              refine ⟨fun _ => ⟨fun z => ?_, fun z => ?_⟩, fun z => absurd (by omega) z⟩
              · rw [cb_f (fun w => by have := xi.mp w; omega)] at X
                exact X
              · rw [cb_t (xi.mpr (by omega))] at X
                exact X
            | succ m2 ih2 =>
              intro k h9 hk F9 O9 R9
              have e64 : h9 608 64 = (s.2.2.2.length : Nat) := by rw [F9 608 (by decide), low 608 (by decide)]; exact A4
              have e52 : h9 652 k = h5 652 k := by rw [F9 652 (by decide), low 652 (by decide)]
              refine v10_ask_78 ?_
              rw [e64, e52, w32_id (x := 10 * ((s.2.2.2.length : Nat) : Int)) (by omega) (by omega), w32_id (x := 300 * (y : Int)) (by omega) (by omega), w32_id (x := 300 * (y : Int) + k) (by omega) (by omega), w32_id (x := (k : Int) + 1) (by omega) (by omega)]
              refine ⟨fun z => absurd z (by omega), fun _ => ⟨by omega, by omega, by omega, by omega, fun h3 k3 => ih2 (k + 1) h3 (by omega) (fun a ha => by rw [k3, hup_r ha]; exact F9 a ha) (fun i hi => by rw [k3, hup_nj (by omega)]; exact O9 i hi) (fun i i0 i1 => ?_)⟩⟩
              by_cases ci : i = k
              · rw [k3, ci, hup_at]
              · rw [k3, hup_nj (by omega)]
                exact R9 i i0 (by omega)
          exact lq (10 * s.2.2.2.length) 0 h12 (by omega) (fun _ _ => rfl) (fun _ _ => rfl) (fun i i0 i1 => by omega)
    exact lp 40 0 h rfl ⟨fun _ _ _ => rfl, fun _ _ _ _ _ => rfl⟩ (fun p p0 p1 _ => by omega)
  · cases T with
    | nil => rfl
    | cons _ _ => simp [ln] at c; omega
theorem m_isAhead (H : mA E T P h) {p q : Int} (p0 : 0 ≤ p) (p1 : p < 40) (pp : (P p).1 = 1) (q0 : 0 ≤ q) (q1 : q < 40) (qq : (P q).1 = 1) (k : Q (cb (ahd (rkP P) p q)) h) : Good g (d + 1) i10_isAhead [LR 10 608, LI p, LI q] S0 h S0 (retI Q) := by
  have ep : h 626 p = rkP P p := ((H.2.2.2.2.2 p p0 p1).2 pp).1
  have eq : h 626 q = rkP P q := ((H.2.2.2.2.2 q q0 q1).2 qq).1
  refine g10_isAhead (fun _ _ => v10_isAhead ?_)
  rw [ep, eq]
  unfold ahd at k
  refine ⟨p0, p1, q0, q1, fun c => ?_, fun c => ⟨fun c2 => ?_, fun c2 => ⟨fun c3 => ?_, fun c3 => ?_⟩⟩⟩
  · rwa [cb_t (Or.inl c)] at k
  · rwa [cb_f (by omega)] at k
  · rwa [cb_f (by omega)] at k
  · rwa [cb_t (Or.inr ⟨c2, by omega⟩)] at k
theorem y_fit (H : mA E T P h) (K : mK E T P A h) {i : Int} (q0 : A = 0 → Q (-1003) h) (q1 : A = 1 → ∀ R : Int, Th (fX E T P) (ahc (fX E T P) (rkP P)) 40 i R → Q R h) : Good g (d + 2) i10_fit [LR 10 608, LI i] S0 h S0 (retI Q) := by
  obtain ⟨a1, a2, a3, a4, a5, a6⟩ := id H
  refine g10_fit (fun _ => v10_fit ?_)
  rw [K.2.1]
  refine fun _ => ⟨fun c => ?_, fun c => q0 c⟩
  have e1 : A = 1 := by have := K.1; omega
  have q1 := q1 e1
  have K := K.2.2 e1
  have xp : ∀ p : Int, 0 ≤ p → p < 40 → (fX E T P p ↔ h 625 p ≠ 0 ∧ 0 < h 654 p) := fun p p0 p1 => by
    have o := (a5 p p0 p1).1
    rw [(a6 p p0 p1).1]
    unfold fX ftT
    refine ⟨fun z => ⟨by omega, ?_⟩, fun z => ⟨by omega, ?_⟩⟩
    · rw [(K p p0 p1 z.1).1]; omega
    · have := (K p p0 p1 (by omega)).1; omega
  have inner : ∀ (m z : Nat) (y : Nat), z + m = 40 → y < 40 → fX E T P y → (ahc (fX E T P) (rkP P) y ≠ i → L0 g (d + 1) m10_fit (retI Q) 13 [some (LR 10 608), some (LI i), some (LI ((y : Int) + 1)), none, none] h) → L0 g (d + 1) m10_fit (retI Q) 42 [some (LR 10 608), some (LI i), some (LI y), some (LI (cntF (fun q => cb (fX E T P q ∧ ahd (rkP P) q y)) z)), some (LI z)] h := by
    intro m
    induction m with
    | zero =>
      intro z y hz hy xy k
      have : z = 40 := by omega
      subst this
      refine v10_fit_42 ⟨fun _ => ⟨fun n => ?_, fun n => q1 _ (Or.inl ⟨by omega, by omega, xy, n⟩)⟩, fun w => absurd (by omega) w⟩
      rw [w32_id (by omega) (by omega)]
      exact k n
    | succ m ih =>
      intro z y hz hy xy k
      have b := cntF_01 (f := fun q => cb (fX E T P q ∧ ahd (rkP P) q y)) (fun q => cb_01 _) z
      have cs : cntF (fun q => cb (fX E T P q ∧ ahd (rkP P) q y)) (z + 1) = cntF (fun q => cb (fX E T P q ∧ ahd (rkP P) q y)) z + cb (fX E T P z ∧ ahd (rkP P) z y) := rfl
      have X := ih (z + 1) y (by omega) hy xy k
      rw [cs] at X
      have xz := xp z (by omega) (by omega)
      have no : ¬ fX E T P z → L0 g (d + 1) m10_fit (retI Q) 42 [some (LR 10 608), some (LI i), some (LI y), some (LI (w32 (cntF (fun q => cb (fX E T P q ∧ ahd (rkP P) q y)) z + 0))), some (LI (w32 ((z : Int) + 1)))] h := fun n => by
        rw [cb_f (fun w => n w.1)] at X
        rw [w32_id (by omega) (by omega), w32_id (by omega) (by omega)]
        exact X
      refine v10_fit_42 ⟨fun w => absurd w (by omega), fun _ => ⟨by omega, by omega, fun _ => ⟨fun w => no (fun v => (xz.mp v).1 w), fun w => ⟨fun w2 => no (fun v => by have := (xz.mp v).2; omega), fun w2 => ?_⟩⟩⟩⟩
      have zz : fX E T P z := xz.mpr ⟨w, by omega⟩
      refine m_isAhead H (by omega) (by omega) zz.1 (by omega) (by omega) xy.1 (bz (fun n => ?_) (fun n => ?_))
      · rw [cb_f (fun w => n w.2)] at X
        rw [w32_id (by omega) (by omega), w32_id (by omega) (by omega)]
        exact X
      · rw [cb_t ⟨zz, n⟩] at X
        rw [w32_id (by omega) (by omega), w32_id (by omega) (by omega)]
        exact X
  have lp : ∀ (m y : Nat), y + m = 40 → (∀ p : Int, 0 ≤ p → p < y → fX E T P p → ahc (fX E T P) (rkP P) p ≠ i) → L0 g (d + 1) m10_fit (retI Q) 13 [some (LR 10 608), some (LI i), some (LI y), none, none] h := by
    intro m
    induction m with
    | zero =>
      intro y hy no
      exact v10_fit_13 ⟨fun _ => q1 _ (Or.inr ⟨rfl, fun p p0 p1 => no p p0 (by omega)⟩), fun z => absurd (by omega) z⟩
    | succ m ih =>
      intro y hy no
      have xy := xp y (by omega) (by omega)
      have go : (fX E T P y → ahc (fX E T P) (rkP P) y ≠ i) → L0 g (d + 1) m10_fit (retI Q) 13 [some (LR 10 608), some (LI i), some (LI ((y : Int) + 1)), none, none] h := fun n => ih (y + 1) (by omega) (fun p p0 p1 x => by
        by_cases cp : p = y
        · subst cp; exact n x
        · exact no p p0 (by omega) x)
      refine v10_fit_13 ⟨fun z => absurd z (by omega), fun _ => ⟨by omega, by omega, fun _ => ?_⟩⟩
      rw [w32_id (by omega) (by omega)]
      refine ⟨fun z => go (fun x => absurd z (xy.mp x).1), fun z => ⟨fun z2 => go (fun x => by have := (xy.mp x).2; omega), fun z2 => ?_⟩⟩
      have X := inner 40 0 y (by omega) (by omega) (xy.mpr ⟨z, by omega⟩) (fun n => go (fun _ => n))
      exact X
  exact lp 40 0 rfl (fun p p0 p1 => by omega)
theorem y_fillings (H : mA E T P h) (K : mK E T P A h) {x : Int} (q : Q (flgs E T P A x) h) : Good g (d + 3) i10_fillings [LR 10 608, LI x] S0 h S0 (retI Q) := by
  obtain ⟨a1, a2, a3, a4, a5, a6⟩ := id H
  unfold flgs at q
  refine g10_fillings (fun _ => v10_fillings (y_noPattern (E := E) (d := d) a5 a6 (bz (fun c => ?_) (fun c => by rwa [if_pos c] at q))))
  rw [if_neg c] at q
  have c := Classical.not_not.mp c
  rw [K.2.1]
  refine fun _ => ⟨fun z => by rwa [if_pos z] at q, fun z => ⟨c.1, c.2.1, ?_⟩⟩
  rw [if_neg z] at q
  rw [(K.2.2 (by have := K.1; omega) x c.1 c.2.1 c.2.2).1]
  exact q
theorem y_filling (H : mA E T P h) (K : mK E T P A h) {x f n : Int} (q : Q (flg1 E T P A x f n) h) : Good g (d + 3) i10_filling [LR 10 608, LI x, LI f, LI n] S0 h S0 (retI Q) := by
  obtain ⟨a1, a2, a3, a4, a5, a6⟩ := id H
  unfold flg1 at q
  refine g10_filling (fun _ _ _ => v10_filling (y_noPattern (E := E) (d := d) a5 a6 (bz (fun c => ?_) (fun c => by rwa [if_pos c] at q))))
  rw [if_neg c] at q
  have c := Classical.not_not.mp c
  rw [K.2.1]
  refine fun _ => ⟨fun z => ⟨c.1, c.2.1, ?_⟩, fun z => by rwa [if_pos z] at q⟩
  rw [if_neg z] at q
  have An := K.2.2 (by have := K.1; omega) x c.1 c.2.1 c.2.2
  have l30 := (run_ok (E := E) (P := (P x).2.2) (T := T) (t := 0) (fo := false)).2.2.2.2
  unfold fls at q
  rw [An.1, w32_id (by omega) (by omega)]
  refine m_in (d := d + 1) (bn (fun c1 => ?_) (fun c1 => by rwa [if_pos (by omega)] at q))
  rw [if_neg (by omega)] at q
  refine m_in (d := d + 1) (bz (fun c2 => by rwa [if_pos (by omega)] at q) (fun c2 => ?_))
  rw [if_neg (by omega)] at q
  rw [w32_id (x := 300 * x) (by omega) (by omega), w32_id (x := 10 * f) (by omega) (by omega), w32_id (x := 300 * x + 10 * f) (by omega) (by omega), w32_id (by omega) (by omega)]
  refine ⟨by omega, by omega, ?_⟩
  have := An.2.2.2.2 f.toNat (by omega) n (by omega) (by omega)
  rw [show ((f.toNat : Nat) : Int) = f by omega, show 300 * x + (10 * f + n) = 300 * x + 10 * f + n by omega] at this
  rw [this]
  exact q
theorem y_asked (H : mA E T P h) (K : mK E T P A h) {x w : Int} (q : Q (askd E T P A x w) h) : Good g (d + 3) i10_asked [LR 10 608, LI x, LI w] S0 h S0 (retI Q) := by
  obtain ⟨a1, a2, a3, a4, a5, a6⟩ := id H
  unfold askd at q
  refine g10_asked (fun _ _ => v10_asked (y_noPattern (E := E) (d := d) a5 a6 (bz (fun c => ?_) (fun c => by rwa [if_pos c] at q))))
  rw [if_neg c] at q
  have c := Classical.not_not.mp c
  refine m_in (d := d + 1) (bn (fun c1 => ?_) (fun c1 => by rwa [if_pos (by omega)] at q))
  rw [if_neg (by omega)] at q
  rw [K.2.1]
  refine fun _ => ⟨fun z => ?_, fun z => by rwa [if_pos z] at q⟩
  rw [if_neg z] at q
  have An := K.2.2 (by have := K.1; omega) x c.1 c.2.1 c.2.2
  have ok := run_ok (E := E) (P := (P x).2.2) (T := T) (t := 0) (fo := false)
  rw [An.2.1, An.2.2.1, An.2.2.2.1]
  generalize run E (P x).2.2 T false 0 = s at *
  refine ⟨fun w0 => ⟨fun w1 => ⟨c.1, c.2.1, fun _ => ?_⟩, fun w1 => ⟨c.1, c.2.1, fun _ => ?_⟩⟩, fun w0 => ⟨c.1, c.2.1, ?_⟩⟩
  · rw [if_neg w0, if_neg w1] at q
    exact ⟨fun v => by rwa [v] at q, fun v => by rwa [show s.2.2.1 = 1 by have := ok.2.2.2.1; omega] at q⟩
  · rw [if_neg w0, if_pos w1] at q
    exact ⟨fun v => by rwa [v] at q, fun v => by rwa [show s.2.1 = 1 by have := ok.2.2.1; omega] at q⟩
  · rwa [if_pos w0] at q
end
