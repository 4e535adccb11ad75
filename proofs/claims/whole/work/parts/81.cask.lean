/-! ASKING, the class -/
/-- a pattern fits at a node -/
noncomputable def ftT (E : Ev) (L T : NL) (n : Int) : Prop := 0 < (run E L T false n).2.2.2.length
/-- how many fillings -/
noncomputable def fls (E : Ev) (L T : NL) (n : Int) : Int := ((run E L T false n).2.2.2.length : Nat)
noncomputable def fX (E : Ev) (T : NL) (P : Ps) (p : Int) : Prop := (P p).1 = 1 ∧ ftT E (P p).2.2 T 0
def rkP (P : Ps) (p : Int) : Int := (P p).2.1
/-- what asking reads -/
def cA (E : Ev) (T : NL) (P : Ps) (h : Hp) : Prop := okE E ∧ cE E h ∧ okT E T ∧ cTr T h ∧ okP E P ∧ cPS P h ∧ tabs h
theorem cA.to {E : Ev} {T : NL} {P : Ps} {h h' : Hp} (H : cA E T P h) (e : ∀ a : Int, (a = 2 ∨ a = 3 ∨ (5 ≤ a ∧ a ≤ 9) ∨ (14 ≤ a ∧ a ≤ 23)) → h' a = h a) (e2 : ∀ p a : Int, 0 ≤ p → p < 40 → 35 + 14 * p ≤ a → a ≤ 35 + 14 * p + 11 → h' a = h a) : cA E T P h' := by
  obtain ⟨a1, a2, a3, a4, a5, a6, a7⟩ := H
  refine ⟨a1, a2.to (e 5 (by decide)) (e 6 (by decide)) (e 7 (by decide)) (e 8 (by decide)) (e 9 (by decide)), a3, a4.to (fun a b0 b1 => e a (by omega)), a5, a6.to e2, ?_⟩
  unfold tabs at *
  rw [e 2 (by decide), e 3 (by decide)]
  exact a7
theorem cA.w {g : Gl} {E : Ev} {T : NL} {P : Ps} {h : Hp} (H : cA E T P h) {p w : Int} (p0 : 0 ≤ p) (p1 : p < 40) (pp : (P p).1 = 1) (wT : wf T 1) (hw : w = 595 ∨ ∃ q : Int, 0 ≤ q ∧ q < 40 ∧ w = 35 + 14 * q + 12) : WBs g E (P p).2.2 T h (35 + 14 * p + 1) w := by
  obtain ⟨a1, a2, a3, a4, a5, a6, a7⟩ := H
  have o := (a5 p p0 p1).2.2 pp
  have c := (a6 p p0 p1).2.2 pp
  refine ⟨a1, a2, a4, a3, wT, o.1, o.2.1, (a5 p p0 p1).2.1, NDs.pat p0 p1, c.2.1, c.2.2.1, a7, ?_, ?_, fun a ha => ?_⟩
  · rcases hw with z | ⟨q, q0, q1, z⟩ <;> omega
  · rcases hw with z | ⟨q, q0, q1, z⟩
    · rw [z]; rfl
    · exact lnn_p (k := 13) q0 q1 (by decide) (by decide) (by omega) rfl
  · rcases hw with z | ⟨q, q0, q1, z⟩ <;> omega
theorem okT.w {E : Ev} {T : NL} (o : okT E T) {n : Int} (n0 : 0 ≤ n) (n1 : n < ln T) : wf T 1 := by
  rcases o.2.1 with z | z
  · rw [z] at n1
    simp [ln] at n1
    omega
  · exact z
section
variable {g : Gl} {d : Nat} {h : Hp} {E : Ev} {T : NL} {P : Ps} {Q : Int → Hp → Prop}
theorem x_at (H : cA E T P h) {x n : Int} (q0 : ¬ ((0 ≤ x ∧ x < 40 ∧ (P x).1 = 1) ∧ 0 ≤ n ∧ n < ln T) → Q (-1001) h) (q1 : (0 ≤ x ∧ x < 40 ∧ (P x).1 = 1) → 0 ≤ n → n < ln T → ∀ h' : Hp, (∀ a : Int, ¬ (598 ≤ a ∧ a ≤ 602) → a ≠ 595 → a ≠ 596 → h' a = h a) → Q (fls E (P x).2.2 T n) h') : Good g (d + 81) i9_at [LR 9 4, LI x, LI n] S0 h S0 (retI Q) := by
  obtain ⟨a1, a2, a3, a4, a5, a6, a7⟩ := id H
  refine g9_at (fun _ _ => v9_at (x_patternOf (E := E) (d := d + 79) a5 a6 (fun c => ⟨fun _ => q0 (fun z => c z.1), fun z => absurd rfl z⟩) (fun x0 x1 x2 => ⟨fun z => absurd z (by omega), fun _ => f_has (d := d + 79) (by decide) a4.1.1 ?_⟩)))
  refine bn (fun c => ?_) (fun c => q0 (fun z => c z.2))
  have X := f_run (g := g) (d := d) (fo := false) (b := 35 + 14 * x) (t := n) (w := 595) (Q := fun h9 => Q (h9 595 1) h9) rfl (by omega) (H.w x0 x1 x2 (a3.w c.1 c.2) (Or.inl rfl)) c.1 c.2 (fun h' F A => by rw [A.1]; exact q1 ⟨x0, x1, x2⟩ c.1 c.2 h' F)
  rw [cb_f (by simp)] at X
  exact X
end
/-- what is kept of nodes that were found -/
def cFd (X : Int → Prop) (T : NL) (h : Hp) : Prop := 0 ≤ h 603 5 ∧ h 603 5 ≤ ln T ∧ h 603 4 = cbl X (h 603 5) ∧ ∀ j : Int, 0 ≤ j → j < h 603 4 → 0 ≤ h 604 j ∧ h 604 j < h 603 5 ∧ X (h 604 j) ∧ cbl X (h 604 j) = j
def cF (E : Ev) (T : NL) (P : Ps) (h : Hp) : Prop := h 603 6 = 0 ∨ ∃ p : Int, 0 ≤ p ∧ p < 40 ∧ (P p).1 = 1 ∧ h 603 6 = 35 + 14 * p ∧ cFd (ftT E (P p).2.2 T) T h
section
variable {g : Gl} {d : Nat} {h : Hp} {E : Ev} {T : NL} {P : Ps} {Q : Int → Hp → Prop}
theorem x_found (H : cA E T P h) (K : cF E T P h) {x i : Int} (q0 : ¬ (0 ≤ x ∧ x < 40 ∧ (P x).1 = 1) → Q (-1001) h) (q1 : (0 ≤ x ∧ x < 40 ∧ (P x).1 = 1) → ∀ (R : Int) (h' : Hp), (∀ a : Int, ¬ (598 ≤ a ∧ a ≤ 604) → a ≠ 595 → a ≠ 596 → h' a = h a) → cF E T P h' → Th (ftT E (P x).2.2 T) (cbl (ftT E (P x).2.2 T)) (ln T) i R → Q R h') : Good g (d + 82) i9_found [LR 9 4, LI x, LI i] S0 h S0 (retI Q) := by
  obtain ⟨a1, a2, a3, a4, a5, a6, a7⟩ := id H
  have l120 := a3.2.2.1
  refine g9_found (fun _ _ => v9_found (x_patternOf (E := E) (d := d + 80) a5 a6 (fun c => ⟨fun z => absurd rfl z, fun _ => q0 c⟩) (fun x0 x1 x2 => ⟨fun _ => ?_, fun z => absurd z (by omega)⟩)))
  have q1 := q1 ⟨x0, x1, x2⟩
  generalize hX : ftT E (P x).2.2 T = X at q1
  have lp : ∀ (m : Nat) (h2 : Hp), (∀ a : Int, ¬ (598 ≤ a ∧ a ≤ 604) → a ≠ 595 → a ≠ 596 → h2 a = h a) → h2 603 6 = 35 + 14 * x → cFd X T h2 → (ln T - h2 603 5).toNat = m → L0 g (d + 80) m1_nodeFound (retI Q) 23 [some (LR 1 603), some (LR 6 (35 + 14 * x)), some (LI i)] h2 := by
    intro m
    induction m with
    | zero =>
      intro h2 F S K2 hm
      obtain ⟨k1, k2, k3, k4⟩ := id K2
      have e9 : h2 14 9 = ln T := by rw [F 14 (by decide) (by decide) (by decide)]; exact a4.1.1
      have fin : cF E T P h2 := Or.inr ⟨x, x0, x1, x2, S, by rw [hX]; exact K2⟩
      have b := cbl_b (X := X) k1
      refine v1_nodeFound_23 (by omega) ⟨fun _ => ⟨fun c => ?_, fun c => ⟨fun c2 => ?_, fun c2 => ⟨by omega, by omega, ?_⟩⟩⟩, fun z => absurd (by omega) z⟩
      · refine q1 _ h2 F fin (Or.inr ⟨rfl, fun p p0 p1 xp e => ?_⟩)
        have := cbl_b (X := X) p0
        omega
      · refine q1 _ h2 F fin (Or.inr ⟨rfl, fun p p0 p1 xp e => ?_⟩)
        have := cbl_lt (X := X) (a := p) (b := h2 603 5) p0 (by omega) xp
        omega
      · have := k4 i (by omega) (by omega)
        exact q1 _ h2 F fin (Or.inl ⟨this.1, by omega, this.2.2.1, this.2.2.2⟩)
    | succ m ih =>
      intro h2 F S K2 hm
      obtain ⟨k1, k2, k3, k4⟩ := id K2
      have e9 : h2 14 9 = ln T := by rw [F 14 (by decide) (by decide) (by decide)]; exact a4.1.1
      have fin : cF E T P h2 := Or.inr ⟨x, x0, x1, x2, S, by rw [hX]; exact K2⟩
      have b := cbl_b (X := X) k1
      refine v1_nodeFound_23 (by omega) ⟨fun z => absurd z (by omega), fun _ => ⟨fun c0 => ⟨fun c => ?_, fun c => ⟨fun c2 => absurd c2 (by omega), fun c2 => ⟨by omega, by omega, ?_⟩⟩⟩, fun c0 => ?_⟩⟩
      · refine q1 _ h2 F fin (Or.inr ⟨rfl, fun p p0 p1 xp e => ?_⟩)
        have := cbl_b (X := X) p0
        omega
      · have := k4 i (by omega) (by omega)
        exact q1 _ h2 F fin (Or.inl ⟨this.1, by omega, this.2.2.1, this.2.2.2⟩)
      · have H2 : cA E T P h2 := H.to (fun a ha => F a (by omega) (by omega) (by omega)) (fun p a p0 p1 b0 b1 => F a (by omega) (by omega) (by omega))
        have Y := f_run (g := g) (d := d) (fo := true) (b := 35 + 14 * x) (t := h2 603 5) (w := 595) (Q := fun h7 => (((h7 595 1) ≤ 0 → ∀ h10 : Hp, h10 = hup h7 603 5 (w32 ((h7 603 5) + 1)) → L0 g (d + 80) m1_nodeFound (retI Q) 23 [some (LR 1 603), some (LR 6 (35 + 14 * x)), some (LI i)] h10) ∧ (¬ (h7 595 1) ≤ 0 → 0 ≤ (h7 603 4) ∧ (h7 603 4) < 120 ∧ ∀ h11 : Hp, h11 = hup h7 604 (h7 603 4) (h7 603 5) → ∀ h12 : Hp, h12 = hup h11 603 4 (w32 ((h11 603 4) + 1)) → ∀ h13 : Hp, h13 = hup h12 603 5 (w32 ((h12 603 5) + 1)) → L0 g (d + 80) m1_nodeFound (retI Q) 23 [some (LR 1 603), some (LR 6 (35 + 14 * x)), some (LI i)] h13))) rfl (by omega) (H2.w x0 x1 x2 (a3.w k1 (by omega)) (Or.inl rfl)) k1 (by omega) (fun h7 F7 A7 => ?_)
        · rw [cb_t rfl] at Y
          exact Y
        · have e603 : h7 603 = h2 603 := F7 603 (by decide) (by decide) (by decide)
          have e604 : h7 604 = h2 604 := F7 604 (by decide) (by decide) (by decide)
          have xi : X (h2 603 5) ↔ 0 < h7 595 1 := by
            rw [A7.1, ← hX]
            unfold ftT
            rw [← run_D]
            omega
          rw [e603]
          refine ⟨fun c h10 k10 => ?_, fun c => ⟨by omega, by omega, fun h11 k11 h12 k12 h13 k13 => ?_⟩⟩
          · rw [w32_id (by omega) (by omega)] at k10
            have g5 : h10 603 5 = h2 603 5 + 1 := by rw [k10, hup_at]
            have g4 : h10 603 4 = h2 603 4 := by rw [k10, hup_nj (by decide), e603]
            have g6 : h10 603 6 = h2 603 6 := by rw [k10, hup_nj (by decide), e603]
            have g604 : h10 604 = h2 604 := by rw [k10, hup_r (by decide), e604]
            refine ih h10 (fun a c1 c2 c3 => by rw [k10, hup_r (by omega), F7 a (by omega) c2 c3]; exact F a c1 c2 c3) (by omega) ⟨by omega, by omega, ?_, fun j j0 j1 => ?_⟩ (by omega)
            · rw [g5, g4, k3, cbl_s k1, cb_f (fun z => by have := xi.mp z; omega)]
              omega
            · rw [g604, g5]
              have := k4 j j0 (by omega)
              exact ⟨this.1, by omega, this.2.2⟩
          · have f12 : h11 603 = h2 603 := by rw [k11, hup_r (by decide), e603]
            rw [f12, w32_id (by omega) (by omega)] at k12
            have f13 : h12 603 5 = h2 603 5 := by rw [k12, hup_nj (by decide), f12]
            rw [f13, w32_id (by omega) (by omega)] at k13
            have g5 : h13 603 5 = h2 603 5 + 1 := by rw [k13, hup_at]
            have g4 : h13 603 4 = h2 603 4 + 1 := by rw [k13, hup_nj (by decide), k12, hup_at]
            have g6 : h13 603 6 = h2 603 6 := by rw [k13, hup_nj (by decide), k12, hup_nj (by decide), f12]
            have xx : X (h2 603 5) := xi.mpr (by omega)
            refine ih h13 (fun a c1 c2 c3 => by rw [k13, hup_r (by omega), k12, hup_r (by omega), k11, hup_r (by omega), F7 a (by omega) c2 c3]; exact F a c1 c2 c3) (by omega) ⟨by omega, by omega, ?_, fun j j0 j1 => ?_⟩ (by omega)
            · rw [g5, g4, k3, cbl_s k1, cb_t xx]
            · rw [g5, k13, hup_ne (by decide), k12, hup_ne (by decide)]
              by_cases cj : j = h2 603 4
              · rw [k11, cj, hup_at]
                exact ⟨k1, by omega, xx, by omega⟩
              · rw [k11, hup_nj cj, e604]
                have := k4 j j0 (by omega)
                exact ⟨this.1, by omega, this.2.2⟩
  refine g1_nodeFound (fun _ _ => v1_nodeFound (by omega) ⟨?_, by omega, fun c => ?_, fun c h2 k2 h3 k3 h4 k4 => ?_⟩)
  · rcases K with z | ⟨p, p0, p1, p2, z, _⟩ <;> omega
  · rcases K with z | ⟨p, p0, p1, p2, z, K2⟩
    · omega
    · have : p = x := by omega
      subst this
      rw [hX] at K2
      exact lp _ h (fun _ _ _ _ => rfl) (by omega) K2 rfl
  · have g4 : h4 603 4 = 0 := by rw [k4, hup_nj (by decide), k3, hup_at]
    have g5 : h4 603 5 = 0 := by rw [k4, hup_at]
    have l0 : 0 ≤ ln T := by unfold ln; omega
    exact lp _ h4 (fun a c1 c2 c3 => by rw [k4, hup_r (by omega), k3, hup_r (by omega), k2, hup_r (by omega)]) (by rw [k4, hup_nj (by decide), k3, hup_nj (by decide), k2, hup_at]) ⟨by omega, by omega, by rw [g4, g5, cbl_0], fun j j0 j1 => by omega⟩ rfl
end
