/-! ASKING, the class: ask, fit, fillings, filling, asked -/
section
variable {g : Gl} {d : Nat} {h : Hp} {E : Ev} {T : NL} {P : Ps}
theorem f_addFit {Q : Hp → Prop} (cp : cPS P h) {y c : Nat} (y1 : y < 40) (py : (P y).1 = 1) (cy : c ≤ y) (hc : h 4 12 = c) (row : ∀ j : Int, 0 ≤ j → j < c → 0 ≤ h 607 j ∧ h 607 j < y ∧ (P (h 607 j)).1 = 1) (q : ∀ (h' : Hp) (i : Nat), i ≤ c → (0 < i → rkP P (h 607 ((i : Int) - 1)) ≤ rkP P y) → (∀ j : Int, i ≤ j → j < c → rkP P y < rkP P (h 607 j)) → (∀ k : Int, 0 ≤ k → k ≤ c → h' 607 k = if k < i then h 607 k else if k = i then (y : Int) else h 607 (k - 1)) → h' 4 12 = ((c + 1 : Nat) : Int) → (∀ a : Int, a ≠ 4 → a ≠ 607 → h' a = h a) → (∀ j : Int, j ≠ 12 → h' 4 j = h 4 j) → Q h') : Good g (d + 1) i9_addFitting [LR 9 4, LI y] S0 h S0 (retV Q) := by
  refine g9_addFitting (fun _ => v9_addFitting ?_)
  rw [hc]
  have ry : h (35 + 14 * (y : Int)) 4 = rkP P y := ((cp y (by omega) (by omega)).2.2 py).1
  have fin : ∀ (i : Nat) (h2 : Hp), i ≤ c → (∀ a : Int, a ≠ 607 → h2 a = h a) → (∀ k : Int, 0 ≤ k → k ≤ c → h2 607 k = if k ≤ i then (if k = c then h2 607 k else h 607 k) else h 607 (k - 1)) → (∀ j : Int, i ≤ j → j < c → rkP P y < rkP P (h 607 j)) → (0 < i → rkP P (h 607 ((i : Int) - 1)) ≤ rkP P y) → ∀ h3 : Hp, h3 = hup h2 607 i y → ∀ h4 : Hp, h4 = hup h3 4 12 (w32 (h3 4 12 + 1)) → Q h4 := by
    intro i h2 ic F R hi lo h3 k3 h4 k4
    have e3 : h3 4 12 = c := by rw [k3, hup_r (by decide), F 4 (by decide), hc]
    rw [e3, w32_id (by omega) (by omega)] at k4
    refine q h4 i ic lo hi (fun k k0 k1 => ?_) (by rw [k4, hup_at]; omega) (fun a c1 c2 => by rw [k4, hup_r c1, k3, hup_r c2]; exact F a c2) (fun j cj => by rw [k4, hup_nj cj, k3, hup_r (by decide), F 4 (by decide)])
    rw [k4, hup_ne (by decide)]
    by_cases ck : k = i
    · rw [if_neg (by omega), if_pos ck, k3, ck, hup_at]
    · rw [k3, hup_nj ck]
      by_cases cl : k < i
      · rw [if_pos cl, R k k0 k1, if_pos (by omega), if_neg (by omega)]
      · rw [if_neg cl, if_neg ck, R k k0 k1, if_neg (by omega)]
  have lp : ∀ (i : Nat) (h2 : Hp), i ≤ c → (∀ a : Int, a ≠ 607 → h2 a = h a) → (∀ k : Int, 0 ≤ k → k ≤ c → h2 607 k = if k ≤ i then (if k = c then h2 607 k else h 607 k) else h 607 (k - 1)) → (∀ j : Int, i ≤ j → j < c → rkP P y < rkP P (h 607 j)) → L0 g d m9_addFitting (retV Q) 5 [some (LR 9 4), some (LI y), some (LI i)] h2 := by
    intro i
    induction i with
    | zero =>
      intro h2 ic F R hi
      refine v9_addFitting_5 ⟨fun _ => ⟨by omega, by omega, fun h3 k3 h4 k4 => fin 0 h2 ic F R hi (fun z => absurd z (by omega)) h3 k3 h4 k4⟩, fun z => absurd (by omega) z⟩
    | succ i ih =>
      intro h2 ic F R hi
      have ei : h2 607 (i : Int) = h 607 i := by rw [R i (by omega) (by omega), if_pos (by omega), if_neg (by omega)]
      have ro := row i (by omega) (by omega)
      have ri : h (35 + 14 * h 607 (i : Int)) 4 = rkP P (h 607 i) := ((cp _ ro.1 (by omega)).2.2 ro.2.2).1
      have rr : ∀ x : Int, 0 ≤ x → x < 40 → h2 (35 + 14 * x) = h (35 + 14 * x) := fun x _ _ => F _ (by omega)
      refine v9_addFitting_5 ⟨fun z => absurd z (by omega), fun _ => ?_⟩
      rw [w32_id (x := ((i + 1 : Nat) : Int) - 1) (by omega) (by omega), show ((i + 1 : Nat) : Int) - 1 = (i : Int) by omega, ei, rr _ ro.1 (by omega), rr y (by omega) (by omega), ri, ry]
      refine ⟨by omega, by omega, ro.1, by omega, by omega, by omega, by omega, fun c1 => ⟨by omega, by omega, fun h3 k3 h4 k4 => fin (i + 1) h2 ic F R hi (fun _ => ?_) h3 k3 h4 k4⟩, fun c1 => ⟨by omega, by omega, fun h3 k3 => ?_⟩⟩
      · rw [show ((i + 1 : Nat) : Int) - 1 = (i : Int) by omega]
        exact c1
      · rw [w32_id (by omega) (by omega), show ((i + 1 : Nat) : Int) + -1 = (i : Int) by omega]
        refine ih h3 (by omega) (fun a ha => by rw [k3, hup_r ha]; exact F a ha) (fun k k0 k1 => ?_) (fun j j0 j1 => ?_)
        · by_cases ck : k = ((i + 1 : Nat) : Int)
          · rw [if_neg (by omega), k3, ck, hup_at, show ((i + 1 : Nat) : Int) - 1 = (i : Int) by omega]
          · rw [k3, hup_nj ck, R k k0 k1]
            by_cases cl : k ≤ (i : Int)
            · rw [if_pos (by omega), if_pos cl, if_neg (by omega), if_neg (by omega)]
            · rw [if_neg (by omega), if_neg cl]
        · by_cases cj : j = i
          · rw [cj]; omega
          · exact hi j (by omega) j1
  exact lp c h (Nat.le_refl _) (fun _ _ => rfl) (fun k k0 k1 => by
    rw [if_pos (by omega)]
    split <;> rfl) (fun j j0 j1 => by omega)
/-- what changes when all are asked -/
def cFrA (h h' : Hp) : Prop := (∀ a : Int, ¬ (598 ≤ a ∧ a ≤ 602) → a ≠ 4 → a ≠ 607 → (∀ p : Int, 0 ≤ p → p < 40 → a ≠ 35 + 14 * p + 12 ∧ a ≠ 35 + 14 * p + 13) → h' a = h a) ∧ ∀ j : Int, j ≠ 12 → j ≠ 13 → h' 4 j = h 4 j
theorem cA.fa {E : Ev} {T : NL} {P : Ps} {h h' : Hp} (H : cA E T P h) (F : cFrA h h') : cA E T P h' := H.to (fun a ha => F.1 a (by omega) (by omega) (by omega) (fun p p0 p1 => by omega)) (fun p a p0 p1 b0 b1 => F.1 a (by omega) (by omega) (by omega) (fun q q0 q1 => by omega))
/-- what was asked, below y -/
def cAns (E : Ev) (T : NL) (P : Ps) (y : Nat) (h : Hp) : Prop := (∀ p : Int, 0 ≤ p → p < y → (P p).1 = 1 → cAn (35 + 14 * p + 12) (run E (P p).2.2 T false 0) h) ∧ ∃ c : Nat, h 4 12 = c ∧ fRow (fX E T P) (rkP P) y (h 607) c
def cK (E : Ev) (T : NL) (P : Ps) (A : Int) (h : Hp) : Prop := (A = 0 ∨ A = 1) ∧ h 4 13 = A ∧ (A = 1 → wf T 1 ∧ cAns E T P 40 h)
noncomputable def fitN (E : Ev) (T : NL) (P : Ps) : Int := cntF (fun q => cb (fX E T P q)) 40
theorem f_askAll {Q : Hp → Prop} (H : cA E T P h) (wT : wf T 1) (q : ∀ h' : Hp, cFrA h h' → cK E T P 1 h' → Q h') : Good g (d + 81) i9_askAll [LR 9 4] S0 h S0 (retV Q) := by
  obtain ⟨a1, a2, a3, a4, a5, a6, a7⟩ := id H
  refine g9_askAll (v9_askAll (fun h1 k1 => ?_))
  have lp : ∀ (m y : Nat) (h2 : Hp), y + m = 40 → cFrA h h2 → cAns E T P y h2 → L0 g (d + 80) m9_askAll (retV Q) 7 [some (LR 9 4), some (LI y)] h2 := by
    intro m
    induction m with
    | zero =>
      intro y h2 hy F A
      have : y = 40 := by omega
      subst this
      refine v9_askAll_7 ⟨fun _ h3 k3 => ?_, fun z => absurd (by omega) z⟩
      obtain ⟨c, c1, c2⟩ := A.2
      refine q h3 ⟨fun a b1 b2 b3 b4 => by rw [k3, hup_r b2]; exact F.1 a b1 b2 b3 b4, fun j b1 b2 => by rw [k3, hup_nj b2]; exact F.2 j b1 b2⟩ ⟨Or.inr rfl, by rw [k3, hup_at], fun _ => ⟨wT, fun p p0 p1 pp => (A.1 p p0 p1 pp).to (by rw [k3, hup_r (by omega)]) (by rw [k3, hup_r (by omega)]), c, by rw [k3, hup_nj (by decide)]; exact c1, fRow_to c2 (fun j _ _ => by rw [k3, hup_ne (by decide)])⟩⟩
    | succ m ih =>
      intro y h2 hy F A
      have H2 := H.fa F
      obtain ⟨b1, b2, b3, b4, b5, b6, b7⟩ := id H2
      have oy := (b5 y (by omega) (by omega)).1
      obtain ⟨c, c1, c2⟩ := A.2
      have cy : (c : Int) ≤ y := by
        rw [← fRow_c c2]
        exact (cntF_01 (f := fun q => cb (fX E T P q)) (fun q => cb_01 _) y).2
      refine v9_askAll_7 ⟨fun z => absurd z (by omega), fun _ => ⟨by omega, by omega, fun _ => ?_⟩⟩
      rw [(b6 y (by omega) (by omega)).1, w32_id (by omega) (by omega)]
      refine ⟨fun z => ?_, fun z => ?_⟩
      · refine ih (y + 1) h2 (by omega) F ⟨fun p p0 p1 pp => ?_, c, c1, fRow_n c2 (fun w => by have := w.1; omega)⟩
        by_cases cp : p = y
        · rw [cp] at pp; omega
        · exact A.1 p p0 (by omega) pp
      · have py : (P y).1 = 1 := by omega
        have Y := f_run (g := g) (d := d) (fo := false) (b := 35 + 14 * (y : Int)) (t := 0) (w := (35 + 14 * (y : Int)) + 12) (Q := fun h5 => (((35 + 14 * (y : Int)) + 12)) ≠ 0 ∧ (((h5 ((35 + 14 * (y : Int)) + 12) 1) ≤ 0 → L0 g (d + 80) m9_askAll (retV Q) 7 [some (LR 9 4), some (LI ((y : Int) + 1))] h5) ∧ (¬ (h5 ((35 + 14 * (y : Int)) + 12) 1) ≤ 0 → Good g (d + 80) i9_addFitting [LR 9 4, LI y] S0 h5 S0 (retV (fun h8 => L0 g (d + 80) m9_askAll (retV Q) 7 [some (LR 9 4), some (LI ((y : Int) + 1))] h8))))) rfl (by omega) (H2.w (by omega) (by omega) py wT (Or.inr ⟨y, by omega, by omega, rfl⟩)) (by omega) (ln_pos wT) (fun h5 F5 A5 => ?_)
        · rw [cb_f (by simp)] at Y
          exact Y
        · have G5 : cFrA h h5 := ⟨fun a x1 x2 x3 x4 => by
            have := x4 y (by omega) (by omega)
            rw [F5 a x1 this.1 (by omega)]
            exact F.1 a x1 x2 x3 x4, fun j x1 x2 => by rw [F5 4 (by omega) (by omega) (by omega)]; exact F.2 j x1 x2⟩
          have An5 : ∀ p : Int, 0 ≤ p → p < ((y + 1 : Nat) : Int) → (P p).1 = 1 → cAn (35 + 14 * p + 12) (run E (P p).2.2 T false 0) h5 := fun p p0 p1 pp => by
            by_cases cp : p = y
            · rw [cp]; exact A5
            · exact (A.1 p p0 (by omega) pp).to (F5 _ (by omega) (by omega) (by omega)) (F5 _ (by omega) (by omega) (by omega))
          have e607 : h5 607 = h2 607 := F5 607 (by omega) (by omega) (by omega)
          have e4 : h5 4 = h2 4 := F5 4 (by omega) (by omega) (by omega)
          have xi : fX E T P y ↔ 0 < h5 (35 + 14 * (y : Int) + 12) 1 := by
            rw [A5.1]
            unfold fX ftT
            omega
          refine ⟨by omega, fun w => ?_, fun w => ?_⟩
          · refine ih (y + 1) h5 (by omega) G5 ⟨An5, c, by rw [e4]; exact c1, ?_⟩
            rw [e607]
            exact fRow_n c2 (fun z => by have := xi.mp z; omega)
          · have H5 := H.fa G5
            refine f_addFit (d := d + 79) H5.2.2.2.2.2.1 (by omega) py (by omega) (c := c) (by rw [e4]; exact c1) (fun j j0 j1 => ?_) (fun h8 i i1 lo hi R8 e8 F8 f8 => ?_)
            · rw [e607]
              have := c2.1 j j0 j1
              exact ⟨this.1, this.2.1, this.2.2.1⟩
            · rw [e607] at lo hi R8
              refine ih (y + 1) h8 (by omega) ⟨fun a x1 x2 x3 x4 => by rw [F8 a x2 x3]; exact G5.1 a x1 x2 x3 x4, fun j x1 x2 => by rw [f8 j x1]; exact G5.2 j x1 x2⟩ ⟨fun p p0 p1 pp => (An5 p p0 p1 pp).to (F8 _ (by omega) (by omega)) (F8 _ (by omega) (by omega)), c + 1, e8, fRow_s c2 (xi.mpr (by omega)) i1 lo hi R8⟩
  refine lp 40 0 h1 rfl ⟨fun a _ x2 _ _ => by rw [k1, hup_r x2], fun j x1 _ => by rw [k1, hup_nj x1]⟩ ⟨fun p p0 p1 _ => by omega, 0, by rw [k1, hup_at]; rfl, fRow_0⟩
end
section
variable {g : Gl} {d : Nat} {h : Hp} {E : Ev} {T : NL} {P : Ps} {A : Int} {Q : Int → Hp → Prop}
theorem x_ask (H : cA E T P h) (K : cK E T P A h) (q0 : T = [] → Q (-1003) h) (q1 : wf T 1 → ∀ h' : Hp, cFrA h h' → cK E T P 1 h' → Q (fitN E T P) h') : Good g (d + 82) i9_ask [LR 9 4] S0 h S0 (retI Q) := by
  obtain ⟨a1, a2, a3, a4, a5, a6, a7⟩ := id H
  have cnt : ∀ h' : Hp, cK E T P 1 h' → h' 4 12 = fitN E T P := fun h' K' => by
    obtain ⟨c, c1, c2⟩ := (K'.2.2 rfl).2.2
    rw [c1, ← fRow_c c2]
    rfl
  refine g9_ask (v9_ask ?_)
  rw [a4.1.1, K.2.1]
  refine ⟨fun c _ => ?_, fun c => q0 ?_⟩
  · have wT : wf T 1 := by
      rcases a3.2.1 with z | z
      · rw [z] at c; exact absurd rfl c
      · exact z
    refine ⟨fun c2 => ?_, fun c2 => f_askAll H wT (fun h' F K' => ?_)⟩
    · have e1 : A = 1 := by have := K.1; omega
      subst e1
      rw [cnt h K]
      exact q1 wT h ⟨fun _ _ _ _ _ => rfl, fun _ _ _ => rfl⟩ K
    · rw [cnt h' K']
      exact q1 wT h' F K'
  · cases T with
    | nil => rfl
    | cons _ _ => simp [ln] at c; omega
theorem x_fit (K : cK E T P A h) {i : Int} (q0 : A = 0 → Q (-1003) h) (q1 : A = 1 → ∀ R : Int, Th (fX E T P) (ahc (fX E T P) (rkP P)) 40 i R → Q R h) : Good g (d + 1) i9_fit [LR 9 4, LI i] S0 h S0 (retI Q) := by
  refine g9_fit (fun _ => v9_fit ?_)
  rw [K.2.1]
  refine fun _ => ⟨fun c => ?_, fun c => q0 c⟩
  have e1 : A = 1 := by have := K.1; omega
  obtain ⟨c0, c1, c2⟩ := (K.2.2 e1).2.2
  have cy : (c0 : Int) ≤ 40 := by
    rw [← fRow_c c2]
    exact (cntF_01 (f := fun q => cb (fX E T P q)) (fun q => cb_01 _) 40).2
  rw [c1]
  exact ⟨fun z => q1 e1 _ (fRow_no c2 (by omega)), fun z => ⟨fun z2 => q1 e1 _ (fRow_no c2 (by omega)), fun z2 => ⟨by omega, by omega, q1 e1 _ (fRow_at c2 (by omega) (by omega))⟩⟩⟩
/-- answers about what was asked -/
noncomputable def flgs (E : Ev) (T : NL) (P : Ps) (A x : Int) : Int := if ¬ (0 ≤ x ∧ x < 40 ∧ (P x).1 = 1) then -1001 else if A = 0 then -1003 else fls E (P x).2.2 T 0
noncomputable def flg1 (E : Ev) (T : NL) (P : Ps) (A x f n : Int) : Int := if ¬ (0 ≤ x ∧ x < 40 ∧ (P x).1 = 1) then -1001 else if A = 0 then -1003 else if ¬ (0 ≤ f ∧ f < fls E (P x).2.2 T 0) then -1001 else if ¬ (0 ≤ n ∧ n < 10) then -1002 else ((run E (P x).2.2 T false 0).2.2.2.getD f.toNat (fun _ => 0)) n
noncomputable def askd (E : Ev) (T : NL) (P : Ps) (A x w : Int) : Int := if ¬ (0 ≤ x ∧ x < 40 ∧ (P x).1 = 1) then -1001 else if ¬ (0 ≤ w ∧ w ≤ 2) then -1002 else if A = 0 then -1003 else if w = 0 then (run E (P x).2.2 T false 0).1 else if w = 1 then (run E (P x).2.2 T false 0).2.1 else (run E (P x).2.2 T false 0).2.2.1
theorem x_fillings (H : cA E T P h) (K : cK E T P A h) {x : Int} (q : Q (flgs E T P A x) h) : Good g (d + 2) i9_fillings [LR 9 4, LI x] S0 h S0 (retI Q) := by
  obtain ⟨a1, a2, a3, a4, a5, a6, a7⟩ := id H
  unfold flgs at q
  refine g9_fillings (fun _ => v9_fillings (x_patternOf (E := E) (d := d) a5 a6 (fun c => ⟨fun z => absurd rfl z, fun _ => ?_⟩) (fun x0 x1 x2 => ⟨fun _ => ?_, fun z => absurd z (by omega)⟩)))
  · rwa [if_pos c] at q
  · rw [if_neg (not_not_intro ⟨x0, x1, x2⟩)] at q
    rw [K.2.1]
    refine fun _ => ⟨fun c => by rwa [if_pos c] at q, fun c => ⟨by omega, ?_⟩⟩
    rw [if_neg c] at q
    rw [((K.2.2 (by have := K.1; omega)).2.1 x x0 x1 x2).1]
    exact q
theorem x_filling (H : cA E T P h) (K : cK E T P A h) {x f n : Int} (q : Q (flg1 E T P A x f n) h) : Good g (d + 2) i9_filling [LR 9 4, LI x, LI f, LI n] S0 h S0 (retI Q) := by
  obtain ⟨a1, a2, a3, a4, a5, a6, a7⟩ := id H
  unfold flg1 at q
  refine g9_filling (fun _ _ _ => v9_filling (x_patternOf (E := E) (d := d) a5 a6 (fun c => ⟨fun z => absurd rfl z, fun _ => ?_⟩) (fun x0 x1 x2 => ⟨fun _ => ?_, fun z => absurd z (by omega)⟩)))
  · rwa [if_pos c] at q
  · rw [if_neg (not_not_intro ⟨x0, x1, x2⟩)] at q
    rw [K.2.1]
    refine fun _ => ⟨fun c => ⟨by omega, ?_⟩, fun c => by rwa [if_pos c] at q⟩
    rw [if_neg c] at q
    have An := (K.2.2 (by have := K.1; omega)).2.1 x x0 x1 x2
    have l30 := (run_ok (E := E) (P := (P x).2.2) (T := T) (t := 0) (fo := false)).2.2.2.2
    unfold fls at q
    refine g0_has (fun _ _ => v0_has (by omega) ?_)
    rw [An.1]
    refine ⟨fun z => ⟨fun w => absurd rfl w, fun _ => ?_⟩, fun z => ⟨fun z2 => ⟨fun w => absurd rfl w, fun _ => ?_⟩, fun z2 => ⟨fun _ => ?_, fun w => absurd w (by decide)⟩⟩⟩
    · rwa [if_pos (by omega)] at q
    · rwa [if_pos (by omega)] at q
    · rw [if_neg (by omega)] at q
      refine ⟨fun w => ?_, fun w => ⟨fun w2 => ?_, fun w2 => ?_⟩⟩
      · rwa [if_pos (by omega)] at q
      · rwa [if_pos (by omega)] at q
      · rw [if_neg (by omega)] at q
        refine f_nodeOf (by omega) (lnn_p (k := 13) x0 x1 (by decide) (by decide) (by omega) rfl) (by omega) (by omega) (by omega) (by omega) ?_
        have := An.2.2.2.2 f.toNat (by omega) n (by omega) (by omega)
        rw [show ((f.toNat : Nat) : Int) = f by omega] at this
        rw [this]
        exact q
theorem x_asked (H : cA E T P h) (K : cK E T P A h) {x w : Int} (q : Q (askd E T P A x w) h) : Good g (d + 2) i9_asked [LR 9 4, LI x, LI w] S0 h S0 (retI Q) := by
  obtain ⟨a1, a2, a3, a4, a5, a6, a7⟩ := id H
  unfold askd at q
  refine g9_asked (fun _ _ => v9_asked (x_patternOf (E := E) (d := d) a5 a6 (fun c => ⟨fun z => absurd rfl z, fun _ => ?_⟩) (fun x0 x1 x2 => ⟨fun _ => ?_, fun z => absurd z (by omega)⟩)))
  · rwa [if_pos c] at q
  · rw [if_neg (not_not_intro ⟨x0, x1, x2⟩)] at q
    refine ⟨fun z => by rwa [if_pos (by omega)] at q, fun z => ⟨fun z2 => ?_, fun z2 => by rwa [if_pos (by omega)] at q⟩⟩
    rw [if_neg (by omega)] at q
    rw [K.2.1]
    refine fun _ => ⟨fun c => ?_, fun c => by rwa [if_pos c] at q⟩
    rw [if_neg c] at q
    have An := (K.2.2 (by have := K.1; omega)).2.1 x x0 x1 x2
    have ok := run_ok (E := E) (P := (P x).2.2) (T := T) (t := 0) (fo := false)
    rw [An.2.1, An.2.2.1, An.2.2.2.1]
    refine ⟨fun w0 => ⟨fun w1 => ⟨by omega, fun _ => x_asInt ok.2.2.2.1 ?_⟩, fun w1 => ⟨by omega, fun _ => x_asInt ok.2.2.1 ?_⟩⟩, fun w0 => ⟨by omega, ?_⟩⟩
    · rwa [if_neg w0, if_neg w1] at q
    · rwa [if_neg w0, if_pos w1] at q
    · rwa [if_pos w0] at q
end
