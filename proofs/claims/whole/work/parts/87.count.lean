/-! THE NET: steps of others, counts -/
noncomputable def ots (P : Ps) (p : Int) : Nat → Int
  | 0 => 0
  | q + 1 => @ite _ (inN P q) (Classical.propDecidable _) (max (ots P p q) (lk (P q).2.2 (P p).2.2)) (ots P p q)
theorem ots_b {P : Ps} {p : Int} : ∀ q : Nat, 0 ≤ ots P p q ∧ ots P p q ≤ ln (P p).2.2
  | 0 => ⟨Int.le_refl _, by unfold ots ln; omega⟩
  | q + 1 => by
    have := ots_b (P := P) (p := p) q
    have := lk_b (P := (P q).2.2) (R := (P p).2.2)
    unfold ots
    split <;> omega
theorem ots_m {P : Ps} {p : Int} (a : Nat) : ∀ m : Nat, ots P p a ≤ ots P p (a + m)
  | 0 => Int.le_refl _
  | m + 1 => by
    have i := ots_m (P := P) (p := p) a m
    have e : ots P p (a + m + 1) = @ite _ (inN P ((a + m : Nat) : Int)) (Classical.propDecidable _) (max (ots P p (a + m)) (lk (P ((a + m : Nat) : Int)).2.2 (P p).2.2)) (ots P p (a + m)) := rfl
    rw [show a + (m + 1) = (a + m) + 1 by omega, e]
    split <;> omega
noncomputable def nsum (P : Ps) (f : Int → Int) (k : Nat) : Int := cntF (fun p => @ite _ (inN P p) (Classical.propDecidable _) (f p) 0) k
theorem nsum_s {P : Ps} {f : Int → Int} {k : Nat} : nsum P f (k + 1) = nsum P f k + @ite _ (inN P k) (Classical.propDecidable _) (f k) 0 := rfl
theorem nsum_b {P : Ps} {f : Int → Int} : ∀ k : Nat, (∀ p : Int, 0 ≤ p → p < k → inN P p → 0 ≤ f p ∧ f p ≤ 24) → 0 ≤ nsum P f k ∧ nsum P f k ≤ 24 * k
  | 0, _ => ⟨Int.le_refl _, by simp [nsum, cntF]⟩
  | k + 1, h => by
    have := nsum_b (P := P) (f := f) k (fun p p0 p1 => h p p0 (by omega))
    rw [nsum_s]
    split
    · rename_i c
      have := h k (by omega) (by omega) c
      omega
    · omega
section
variable {g : Gl} {d : Nat} {h : Hp} {E : Ev} {P : Ps} {Q : Int → Hp → Prop}
theorem f_others (op : okP E P) (cp : cPS P h) {p : Nat} (p1 : p < 40) (pp : (P p).1 = 1) (k : Q (ots P p p) h) : Good g (d + 3) i4_stepsOfOthers [LR 4 605, LI p] S0 h S0 (retI Q) := by
  have oy := op p (by omega) (by omega)
  have lp : ∀ (m q : Nat), q + m = p → L0 g (d + 2) m4_stepsOfOthers (retI Q) 4 [some (LR 4 605), some (LI p), some (LI (ots P p q)), some (LI q)] h := by
    intro m
    induction m with
    | zero =>
      intro q hq
      refine v4_stepsOfOthers_4 ⟨fun _ => ?_, fun z => absurd (by omega) z⟩
      rw [show q = p by omega]
      exact k
    | succ m ih =>
      intro q hq
      have X := ih (q + 1) (by omega)
      unfold ots at X
      refine v4_stepsOfOthers_4 ⟨fun z => absurd z (by omega), fun _ => ⟨by omega, by omega, x_isInNet (E := E) (d := d + 1) op cp (by omega) (by omega) (bz (fun c => ?_) (fun c => ⟨by omega, by omega, ?_⟩))⟩⟩
      · rw [if_neg c] at X
        rw [w32_id (by omega) (by omega)]
        exact X
      · rw [if_pos c] at X
        have ox := op q (by omega) (by omega)
        refine f_like (by omega) (by omega) (by omega) (by omega) ((cp q (by omega) (by omega)).2.2 c.1).2 ((cp p (by omega) (by omega)).2.2 pp).2 (ox.2.2 c.1).1 (oy.2.2 pp).1 ox.2.1 oy.2.1 ?_
        rw [w32_id (by omega) (by omega)]
        exact X
  exact g4_stepsOfOthers (fun _ => v4_stepsOfOthers (lp p 0 (by omega)))
theorem f_patternsIn (op : okP E P) (cp : cPS P h) (k : Q (nsum P (fun _ => 1) 40) h) : Good g (d + 2) i4_patternsIn [LR 4 605] S0 h S0 (retI Q) := by
  have lp : ∀ (m y : Nat), y + m = 40 → L0 g (d + 1) m4_patternsIn (retI Q) 4 [some (LR 4 605), some (LI (nsum P (fun _ => 1) y)), some (LI y)] h := by
    intro m
    induction m with
    | zero =>
      intro y hy
      refine v4_patternsIn_4 ⟨fun _ => ?_, fun z => absurd (by omega) z⟩
      rw [show y = 40 by omega]
      exact k
    | succ m ih =>
      intro y hy
      have X := ih (y + 1) (by omega)
      have b := nsum_b (P := P) (f := fun _ => 1) y (fun _ _ _ _ => ⟨by decide, by decide⟩)
      rw [nsum_s] at X
      refine v4_patternsIn_4 ⟨fun z => absurd z (by omega), fun _ => ⟨by omega, by omega, x_isInNet (E := E) (d := d) op cp (by omega) (by omega) (bz (fun c => ?_) (fun c => ?_))⟩⟩
      · rw [if_neg c] at X
        rw [w32_id (by omega) (by omega), w32_id (by omega) (by omega)]
        exact X
      · rw [if_pos c] at X
        rw [w32_id (by omega) (by omega), w32_id (by omega) (by omega)]
        exact X
  exact g4_patternsIn (v4_patternsIn (lp 40 0 rfl))
theorem ln_b (op : okP E P) {p : Int} (p0 : 0 ≤ p) (p1 : p < 40) : 0 ≤ ln (P p).2.2 ∧ ln (P p).2.2 ≤ 24 := ⟨by unfold ln; omega, (op p p0 p1).2.1⟩
theorem f_marksIn (op : okP E P) (cp : cPS P h) (k : Q (nsum P (fun p => ln (P p).2.2) 40) h) : Good g (d + 2) i4_marksIn [LR 4 605] S0 h S0 (retI Q) := by
  have lp : ∀ (m y : Nat), y + m = 40 → L0 g (d + 1) m4_marksIn (retI Q) 4 [some (LR 4 605), some (LI (nsum P (fun p => ln (P p).2.2) y)), some (LI y)] h := by
    intro m
    induction m with
    | zero =>
      intro y hy
      refine v4_marksIn_4 ⟨fun _ => ?_, fun z => absurd (by omega) z⟩
      rw [show y = 40 by omega]
      exact k
    | succ m ih =>
      intro y hy
      have X := ih (y + 1) (by omega)
      have b := nsum_b (P := P) (f := fun p => ln (P p).2.2) y (fun p p0 p1 _ => ln_b op p0 (by omega))
      have l := ln_b (p := y) op (by omega) (by omega)
      rw [nsum_s] at X
      refine v4_marksIn_4 ⟨fun z => absurd z (by omega), fun _ => ⟨by omega, by omega, x_isInNet (E := E) (d := d) op cp (by omega) (by omega) (bz (fun c => ?_) (fun c => ⟨by omega, ?_⟩))⟩⟩
      · rw [if_neg c] at X
        rw [w32_id (by omega) (by omega), w32_id (by omega) (by omega)]
        exact X
      · rw [if_pos c] at X
        rw [(cp y (by omega) (by omega)).2.1.1, w32_id (by omega) (by omega), w32_id (by omega) (by omega)]
        exact X
  exact g4_marksIn (v4_marksIn (lp 40 0 rfl))
theorem f_stepsIn (op : okP E P) (cp : cPS P h) (k : Q (nsum P (fun p => ln (P p).2.2 - ots P p p.toNat) 40) h) : Good g (d + 4) i4_stepsIn [LR 4 605] S0 h S0 (retI Q) := by
  have lp : ∀ (m y : Nat), y + m = 40 → L0 g (d + 3) m4_stepsIn (retI Q) 4 [some (LR 4 605), some (LI (nsum P (fun p => ln (P p).2.2 - ots P p p.toNat) y)), some (LI y)] h := by
    intro m
    induction m with
    | zero =>
      intro y hy
      refine v4_stepsIn_4 ⟨fun _ => ?_, fun z => absurd (by omega) z⟩
      rw [show y = 40 by omega]
      exact k
    | succ m ih =>
      intro y hy
      have X := ih (y + 1) (by omega)
      have b := nsum_b (P := P) (f := fun p => ln (P p).2.2 - ots P p p.toNat) y (fun p p0 p1 _ => by
        have := ln_b op p0 (show p < 40 by omega)
        have := ots_b (P := P) (p := p) p.toNat
        show 0 ≤ ln (P p).2.2 - ots P p p.toNat ∧ ln (P p).2.2 - ots P p p.toNat ≤ 24
        omega)
      have l := ln_b (p := y) op (by omega) (by omega)
      have ob := ots_b (P := P) (p := y) y
      rw [nsum_s] at X
      refine v4_stepsIn_4 ⟨fun z => absurd z (by omega), fun _ => ⟨by omega, by omega, x_isInNet (E := E) (d := d + 2) op cp (by omega) (by omega) (bz (fun c => ?_) (fun c => ⟨by omega, ?_⟩))⟩⟩
      · rw [if_neg c, Int.add_zero] at X
        rw [w32_id (by omega) (by omega)]
        exact X
      · rw [if_pos c] at X
        try dsimp only at X
        rw [show ((y : Nat) : Int).toNat = y by omega] at X
        refine f_others op cp (by omega) c.1 ?_
        rw [(cp y (by omega) (by omega)).2.1.1, w32_id (x := ln (P y).2.2 - ots P y y) (by omega) (by omega), w32_id (by omega) (by omega), w32_id (by omega) (by omega)]
        exact X
  exact g4_stepsIn (v4_stepsIn (lp 40 0 rfl))
/-- the model: a beginning that is new -/
theorem m_isNew (ok : okE E) (me : mE E h) (op : okP E P) (mp : mPS P h) {p : Nat} (p1 : p < 40) (pp : (P p).1 = 1) {n : Int} (n1 : 1 ≤ n) (k : Q (cb (ots P p p < n)) h) : Good g (d + 4) i10_isNew [LR 10 608, LI p, LI n] S0 h S0 (retI Q) := by
  have oy := op p (by omega) (by omega)
  have lp : ∀ (m q : Nat), q + m = p → L0 g (d + 3) m10_isNew (retI Q) 5 [some (LR 10 608), some (LI p), some (LI n), some (LI (cb (ots P p q < n))), some (LI q)] h := by
    intro m
    induction m with
    | zero =>
      intro q hq
      refine v10_isNew_5 ⟨fun _ => ⟨cb_01 _, ?_⟩, fun z => absurd (by omega) z⟩
      rw [show q = p by omega]
      exact k
    | succ m ih =>
      intro q hq
      have X := ih (q + 1) (by omega)
      unfold ots at X
      refine v10_isNew_5 ⟨fun z => absurd z (by omega), fun _ => bz (fun c => ⟨cb_01 _, ?_⟩) (fun c => ?_)⟩
      · have mo := ots_m (P := P) (p := p) q (m + 1)
        rw [hq] at mo
        rw [cb_f (show ¬ ots P p p < n by omega)] at k
        rw [cb_f c]
        exact k
      · refine y_inNet (d := d + 1) ok me op mp (by omega) (by omega) (bz (fun c2 => ?_) (fun c2 => ?_))
        · rw [if_neg c2, cb_t c] at X
          rw [w32_id (by omega) (by omega)]
          exact X
        · rw [if_pos c2] at X
          have ox := op q (by omega) (by omega)
          refine m_common (by omega) (by omega) (by omega) (by omega) ((mp p (by omega) (by omega)).2 pp).2 ((mp q (by omega) (by omega)).2 c2.1).2 (oy.2.2 pp).1 (ox.2.2 c2.1).1 oy.2.1 ox.2.1 ?_
          rw [lk_s, w32_id (by omega) (by omega)]
          refine ⟨fun z => ?_, fun z => ?_⟩
          · rw [cb_f (by omega)] at X
            exact X
          · rw [cb_t (by omega)] at X
            exact X
  have X := lp p 0 (by omega)
  unfold ots at X
  rw [cb_t (by omega)] at X
  exact g10_isNew (fun _ _ => v10_isNew X)
theorem m_netSize (ok : okE E) (me : mE E h) (op : okP E P) (mp : mPS P h) {u : Int} (k : Q (nsum P (fun p => if u = 0 then 1 else ln (P p).2.2) 40) h) : Good g (d + 3) i10_netSize [LR 10 608, LI u] S0 h S0 (retI Q) := by
  have lp : ∀ (m y : Nat), y + m = 40 → L0 g (d + 2) m10_netSize (retI Q) 4 [some (LR 10 608), some (LI u), some (LI (nsum P (fun p => if u = 0 then 1 else ln (P p).2.2) y)), some (LI y)] h := by
    intro m
    induction m with
    | zero =>
      intro y hy
      refine v10_netSize_4 ⟨fun _ => ?_, fun z => absurd (by omega) z⟩
      rw [show y = 40 by omega]
      exact k
    | succ m ih =>
      intro y hy
      have X := ih (y + 1) (by omega)
      have b := nsum_b (P := P) (f := fun p => if u = 0 then 1 else ln (P p).2.2) y (fun p p0 p1 _ => by
        have := ln_b op p0 (show p < 40 by omega)
        show 0 ≤ (if u = 0 then (1 : Int) else ln (P p).2.2) ∧ (if u = 0 then (1 : Int) else ln (P p).2.2) ≤ 24
        split <;> omega)
      have l := ln_b (p := y) op (by omega) (by omega)
      rw [nsum_s] at X
      refine v10_netSize_4 ⟨fun z => absurd z (by omega), fun _ => y_inNet (d := d) ok me op mp (by omega) (by omega) (bz (fun c => ?_) (fun c => ⟨fun z => ?_, fun z => ⟨by omega, by omega, ?_⟩⟩))⟩
      · rw [if_neg c] at X
        rw [w32_id (by omega) (by omega), w32_id (by omega) (by omega)]
        exact X
      · rw [if_pos c, if_pos z] at X
        rw [w32_id (by omega) (by omega), w32_id (by omega) (by omega)]
        exact X
      · rw [if_pos c, if_neg z] at X
        rw [((mp y (by omega) (by omega)).2 c.1).2.1, w32_id (by omega) (by omega), w32_id (by omega) (by omega)]
        exact X
  exact g10_netSize (fun _ => v10_netSize (lp 40 0 rfl))
theorem m_steps (ok : okE E) (me : mE E h) (op : okP E P) (mp : mPS P h) (k : Q (nsum P (fun p => ln (P p).2.2 - ots P p p.toNat) 40) h) : Good g (d + 5) i10_steps [LR 10 608] S0 h S0 (retI Q) := by
  have lp : ∀ (m y : Nat), y + m = 40 → L0 g (d + 4) m10_steps (retI Q) 4 [some (LR 10 608), some (LI (nsum P (fun p => ln (P p).2.2 - ots P p p.toNat) y)), some (LI y), none] h := by
    intro m
    induction m with
    | zero =>
      intro y hy
      refine v10_steps_4 ⟨fun _ => ?_, fun z => absurd (by omega) z⟩
      rw [show y = 40 by omega]
      exact k
    | succ m ih =>
      intro y hy
      have X := ih (y + 1) (by omega)
      have b := nsum_b (P := P) (f := fun p => ln (P p).2.2 - ots P p p.toNat) y (fun p p0 p1 _ => by
        have := ln_b op p0 (show p < 40 by omega)
        have := ots_b (P := P) (p := p) p.toNat
        show 0 ≤ ln (P p).2.2 - ots P p p.toNat ∧ ln (P p).2.2 - ots P p p.toNat ≤ 24
        omega)
      have l := ln_b (p := y) op (by omega) (by omega)
      have ob := ots_b (P := P) (p := y) y
      rw [nsum_s] at X
      try dsimp only at X
      rw [show ((y : Nat) : Int).toNat = y by omega] at X
      refine v10_steps_4 ⟨fun z => absurd z (by omega), fun _ => ?_⟩
      by_cases c : inN P y
      · rw [if_pos c] at X
        have e27 : h 627 y = ln (P y).2.2 := ((mp y (by omega) (by omega)).2 c.1).2.1
        have inner : ∀ (m2 : Nat) (n : Int), 1 ≤ n → n + m2 = ln (P y).2.2 + 1 → L0 g (d + 4) m10_steps (retI Q) 12 [some (LR 10 608), some (LI (nsum P (fun p => ln (P p).2.2 - ots P p p.toNat) y + max (n - 1 - ots P y y) 0)), some (LI y), some (LI n)] h := by
          intro m2
          induction m2 with
          | zero =>
            intro n n1 hn
            refine v10_steps_12 ?_
            rw [e27, w32_id (x := (y : Int) + 1) (by omega) (by omega)]
            refine ⟨by omega, by omega, fun _ => ?_, fun z => absurd (by omega) z⟩
            rw [show max (n - 1 - ots P y y) 0 = ln (P y).2.2 - ots P y y by omega]
            exact X
          | succ m2 ih2 =>
            intro n n1 hn
            have Y := ih2 (n + 1) (by omega) (by omega)
            refine v10_steps_12 ?_
            rw [e27]
            refine ⟨by omega, by omega, fun z => absurd z (by omega), fun _ => y_inNet (d := d + 2) ok me op mp (by omega) (by omega) (bz (fun z => absurd c z) (fun _ => m_isNew ok me op mp (by omega) c.1 n1 (bz (fun z => ?_) (fun z => ?_))))⟩
            · rw [w32_id (by omega) (by omega), w32_id (by omega) (by omega), Int.add_zero, show max (n - 1 - ots P y y) 0 = max (n + 1 - 1 - ots P y y) 0 by omega]
              exact Y
            · rw [w32_id (by omega) (by omega), w32_id (by omega) (by omega), show nsum P (fun p => ln (P p).2.2 - ots P p p.toNat) y + max (n - 1 - ots P y y) 0 + 1 = nsum P (fun p => ln (P p).2.2 - ots P p p.toNat) y + max (n + 1 - 1 - ots P y y) 0 by omega]
              exact Y
        have Y := inner (ln (P y).2.2).toNat 1 (by omega) (by omega)
        rw [show max ((1 : Int) - 1 - ots P y y) 0 = 0 by omega, Int.add_zero] at Y
        exact Y
      · rw [if_neg c, Int.add_zero] at X
        refine v10_steps_12 ?_
        rw [w32_id (x := (y : Int) + 1) (by omega) (by omega)]
        exact ⟨by omega, by omega, fun _ => X, fun _ => y_inNet (d := d + 2) ok me op mp (by omega) (by omega) (bz (fun _ => X) (fun z => absurd z c))⟩
  exact g10_steps (v10_steps (lp 40 0 rfl))
/-- what is counted -/
noncomputable def cntV (E : Ev) (P : Ps) (T : NL) (n m w : Int) : Int := if w = 0 then E 0 0 else if w = 1 then E 0 1 else if w = 2 then prs P else if w = 3 then ln T else if w = 4 then nsum P (fun _ => 1) 40 else if w = 5 then nsum P (fun p => ln (P p).2.2 - ots P p p.toNat) 40 else if w = 6 then nsum P (fun p => ln (P p).2.2) 40 else if w = 7 then n else if w = 8 then m else -1002
theorem x_count {T : NL} {n m w : Int} (ce : cE E h) (op : okP E P) (cp : cPS P h) (et : h 14 9 = ln T) (en : h 10 1 = n) (em : h 12 1 = m) (k : Q (cntV E P T n m w) h) : Good g (d + 5) i9_count [LR 9 4, LI w] S0 h S0 (retI Q) := by
  unfold cntV at k
  refine g9_count (fun _ => v9_count ?_)
  rw [ce.1, ce.2.1, et, en, em]
  refine ⟨fun z => ?_, fun z => ?_, fun z => ?_, fun z => x_present (d := d + 2) op cp ?_, fun z => ?_, fun z => f_patternsIn (d := d + 2) op cp ?_, fun z => f_stepsIn op cp ?_, fun z => f_marksIn (d := d + 2) op cp ?_, fun z => ?_, fun z => ?_⟩
  · rwa [if_neg (by omega), if_neg (by omega), if_neg (by omega), if_neg (by omega), if_neg (by omega), if_neg (by omega), if_neg (by omega), if_neg (by omega), if_neg (by omega)] at k
  all_goals subst z; simpa using k
theorem y_count {T : NL} {n m w : Int} (ok : okE E) (me : mE E h) (op : okP E P) (mp : mPS P h) (ep : h 608 41 = prs P) (et : h 608 42 = ln T) (en : h 608 7 = n) (em : h 608 76 = m) (k : Q (cntV E P T n m w) h) : Good g (d + 6) i10_count [LR 10 608, LI w] S0 h S0 (retI Q) := by
  unfold cntV at k
  refine g10_count (fun _ => v10_count ?_)
  rw [me.1, me.2.1, ep, et, en, em]
  refine ⟨fun z => ?_, fun z => ?_, fun z => ?_, fun z => ?_, fun z => ?_, fun z => m_netSize (d := d + 2) ok me op mp ?_, fun z => m_steps ok me op mp ?_, fun z => m_netSize (d := d + 2) ok me op mp ?_, fun z => ?_, fun z => ?_⟩
  · rwa [if_neg (by omega), if_neg (by omega), if_neg (by omega), if_neg (by omega), if_neg (by omega), if_neg (by omega), if_neg (by omega), if_neg (by omega), if_neg (by omega)] at k
  all_goals subst z; simpa using k
end
