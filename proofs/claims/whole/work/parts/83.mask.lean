/-! ASKING, the model -/
def mA (E : Ev) (T : NL) (P : Ps) (h : Hp) : Prop := okE E ∧ mE E h ∧ okT E T ∧ mTr T h ∧ okP E P ∧ mPS P h
theorem mA.to {E : Ev} {T : NL} {P : Ps} {h h' : Hp} (H : mA E T P h) (e : ∀ a : Int, 609 ≤ a → a ≤ 640 → h' a = h a) (f0 : h' 608 0 = h 608 0) (f2 : h' 608 2 = h 608 2) (f42 : h' 608 42 = h 608 42) : mA E T P h' := by
  obtain ⟨a1, a2, a3, a4, a5, a6⟩ := H
  refine ⟨a1, a2.to f0 f2 (e 609 (by decide) (by decide)) (e 610 (by decide) (by decide)) (e 611 (by decide) (by decide)) (e 612 (by decide) (by decide)), a3, ⟨a4.1.to f42 (e 637 (by decide) (by decide)) (e 638 (by decide) (by decide)) (e 639 (by decide) (by decide)), fun i i0 i1 => by rw [e 640 (by decide) (by decide)]; exact a4.2 i i0 i1⟩, a5, fun p p0 p1 => ?_⟩
  have m := a6 p p0 p1
  exact ⟨by rw [e 625 (by decide) (by decide)]; exact m.1, fun z => ⟨by rw [e 626 (by decide) (by decide)]; exact (m.2 z).1, (m.2 z).2.to (fun a b0 b1 => e a (by omega) (by omega))⟩⟩
theorem mA.fm {E : Ev} {T : NL} {P : Ps} {h h' : Hp} (H : mA E T P h) (F : mFrm h h') : mA E T P h' := H.to (fun a b0 b1 => F.1 a (by omega) (by omega)) (F.2 0 (by decide) (by decide) (by decide)) (F.2 2 (by decide) (by decide) (by decide)) (F.2 42 (by decide) (by decide) (by decide))
theorem mA.h {E : Ev} {T : NL} {P : Ps} {h : Hp} (H : mA E T P h) {p : Int} (p0 : 0 ≤ p) (p1 : p < 40) (pp : (P p).1 = 1) (wT : wf T 1) : MHs E (P p).2.2 T p h := by
  obtain ⟨a1, a2, a3, a4, a5, a6⟩ := H
  have o := (a5 p p0 p1).2.2 pp
  exact ⟨a1, a2, a4.1, a3, wT, ⟨p0, p1⟩, ((a6 p p0 p1).2 pp).2, o.1, o.2.1, (a5 p p0 p1).2.1⟩
theorem mFrm.refl {h : Hp} : mFrm h h := ⟨fun _ _ _ => rfl, fun _ _ _ _ => rfl⟩
theorem mFrm.tr {h h1 h2 : Hp} (a : mFrm h h1) (b : mFrm h1 h2) : mFrm h h2 := ⟨fun x c1 c2 => (b.1 x c1 c2).trans (a.1 x c1 c2), fun j c1 c2 c3 => (b.2 j c1 c2 c3).trans (a.2 j c1 c2 c3)⟩
section
variable {g : Gl} {d : Nat} {h : Hp} {E : Ev} {T : NL} {P : Ps} {Q : Int → Hp → Prop}
theorem y_at (H : mA E T P h) {x n : Int} (q0 : ¬ ((0 ≤ x ∧ x < 40 ∧ (P x).1 = 1) ∧ 0 ≤ n ∧ n < ln T) → Q (-1001) h) (q1 : (0 ≤ x ∧ x < 40 ∧ (P x).1 = 1) → 0 ≤ n → n < ln T → ∀ h' : Hp, mFrm h h' → Q (fls E (P x).2.2 T n) h') : Good g (d + 5) i10_at [LR 10 608, LI x, LI n] S0 h S0 (retI Q) := by
  obtain ⟨a1, a2, a3, a4, a5, a6⟩ := id H
  refine g10_at (fun _ _ => v10_at (y_noPattern (E := E) (d := d + 2) a5 a6 ?_))
  refine bn (fun c => q0 (fun z => c z.1)) (fun c => ?_)
  have c := Classical.not_not.mp c
  refine m_noNode (d := d + 2) a4.1.1 a3.2.2.1 (bz (fun c2 => ?_) (fun c2 => q0 (fun z => c2 z.2)))
  have c2 := Classical.not_not.mp c2
  refine m_fitAll (D := d) (H.h c.1 c.2.1 c.2.2 (a3.w c2.1 c2.2)) c2.1 c2.2 (fun h' F A => ?_)
  rw [A.2.2.2.1]
  exact q1 c c2.1 c2.2 h' F
theorem y_found (H : mA E T P h) {x i : Int} (q0 : ¬ (0 ≤ x ∧ x < 40 ∧ (P x).1 = 1) → Q (-1001) h) (q1 : (0 ≤ x ∧ x < 40 ∧ (P x).1 = 1) → ∀ (R : Int) (h' : Hp), mFrm h h' → Th (ftT E (P x).2.2 T) (cbl (ftT E (P x).2.2 T)) (ln T) i R → Q R h') : Good g (d + 5) i10_found [LR 10 608, LI x, LI i] S0 h S0 (retI Q) := by
  obtain ⟨a1, a2, a3, a4, a5, a6⟩ := id H
  have l120 := a3.2.2.1
  refine g10_found (fun _ hi => v10_found (y_noPattern (E := E) (d := d + 2) a5 a6 ?_))
  refine bz (fun c => ?_) (fun c => q0 c)
  have c := Classical.not_not.mp c
  have q1 := q1 c
  generalize hX : ftT E (P x).2.2 T = X at q1
  have lp : ∀ (m : Nat) (n : Int) (h2 : Hp), 0 ≤ n → n + m = ln T → mFrm h h2 → cbl X n ≤ i ∨ i < 0 ∧ n = 0 → L0 g (d + 4) m10_found (retI Q) 17 [some (LR 10 608), some (LI x), none, some (LI (i - cbl X n)), some (LI n)] h2 := by
    intro m
    induction m with
    | zero =>
      intro n h2 n0 hn F hc
      refine v10_found_17 ⟨fun _ => q1 _ h2 F (Or.inr ⟨rfl, fun p p0 p1 xp e => ?_⟩), fun z => absurd (by rw [(H.fm F).2.2.2.1.1.1]; omega) z⟩
      have := cbl_lt (X := X) (a := p) (b := n) p0 (by omega) xp
      have := cbl_b (X := X) p0
      omega
    | succ m ih =>
      intro n h2 n0 hn F hc
      have b := cbl_b (X := X) n0
      have wT := a3.w n0 (by omega)
      have H2 := H.fm F
      unfold inI at hi
      refine v10_found_17 ⟨fun z => absurd z (by rw [H2.2.2.2.1.1.1]; omega), fun _ => ⟨fun z => q1 _ h2 F (Or.inr ⟨rfl, fun p p0 p1 xp e => ?_⟩), fun z => ?_⟩⟩
      · have := cbl_b (X := X) p0
        omega
      · refine m_fitAll (D := d) (H2.h c.1 c.2.1 c.2.2 wT) n0 (by omega) (fun h3 F3 A3 => ?_)
        have xi : X n ↔ 0 < h3 608 64 := by
          rw [A3.2.2.2.1, ← hX]
          unfold ftT
          omega
        have F4 := F.tr F3
        rw [w32_id (x := n + 1) (by omega) (by omega)]
        refine ⟨fun w => ?_, fun w => ⟨fun w2 => ?_, fun w2 => ?_⟩⟩
        · have X3 := ih (n + 1) h3 (by omega) (by omega) F4 (by rw [cbl_s n0, cb_f (fun z => by have := xi.mp z; omega)]; omega)
          rw [cbl_s n0, cb_f (fun z => by have := xi.mp z; omega), Int.add_zero] at X3
          exact X3
        · have xn : X n := xi.mpr (by omega)
          have X3 := ih (n + 1) h3 (by omega) (by omega) F4 (by rw [cbl_s n0, cb_t xn]; omega)
          rw [cbl_s n0, cb_t xn] at X3
          rw [w32_id (by omega) (by omega), show i - cbl X n + -1 = i - (cbl X n + 1) by omega]
          exact X3
        · exact q1 _ h3 F4 (Or.inl ⟨n0, by omega, xi.mpr (by omega), by omega⟩)
  have l0 : 0 ≤ ln T := by unfold ln; omega
  have X0 := lp (ln T).toNat 0 h (by omega) (by omega) mFrm.refl (by rw [cbl_0]; omega)
  rw [cbl_0, Int.sub_zero] at X0
  exact X0
end
