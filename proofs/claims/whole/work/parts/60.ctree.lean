/-! TREE AND CHANGE, the class -/
def cTr (T : NL) (h : Hp) : Prop := cN 14 T h ∧ cS 14 T h ∧ ∀ i : Int, 0 ≤ i → i < ln T → isP T 0 i (h 22 i)
theorem cTr.to {T : NL} {h h' : Hp} (H : cTr T h) (e : ∀ a : Int, 14 ≤ a → a ≤ 23 → h' a = h a) : cTr T h' := by
  refine ⟨H.1.to (by rw [e 14 (by decide) (by decide)]) (fun k k0 k1 => e _ (by omega) (by omega)), H.2.1.to (e (14 + 9) (by decide) (by decide)), ?_⟩
  rw [e 22 (by decide) (by decide)]
  exact H.2.2
/-- what a change of the tree leaves as it was -/
def cFrT (h h' : Hp) : Prop := (∀ a : Int, a ≠ 597 → a ≠ 10 → ¬ (14 ≤ a ∧ a ≤ 31) → a ≠ 4 → a ≠ 603 → h' a = h a) ∧ (∀ j : Int, j ≠ 13 → h' 4 j = h 4 j) ∧ h' 4 13 = 0 ∧ (∀ j : Int, j ≠ 6 → h' 603 j = h 603 j) ∧ h' 603 6 = 0
/-- what a fault leaves as it was -/
def cFrF (h h' : Hp) : Prop := ∀ a : Int, a ≠ 597 → a ≠ 10 → ¬ (24 ≤ a ∧ a ≤ 31) → h' a = h a
section
variable {g : Gl} {d : Nat} {h : Hp} {E : Ev} {B : Int → Int} {n : Int} {T : NL} {Q : Int → Hp → Prop}
theorem f_forget {Q : Hp → Prop} (q : Q (hup (hup h 4 13 0) 603 6 0)) : Good g (d + 1) i9_forgetAnswers [LR 9 4] S0 h S0 (retV Q) :=
  g9_forgetAnswers (v9_forgetAnswers (fun h1 e1 h2 e2 => by rw [e2, e1]; exact q))
theorem x_rpl (ok : okE E) (ce : cE E h) (cx : cX 10 1000 B n h) (ct : cTr T h) (ot : okT E T) {f k mo : Int} (f0 : 0 ≤ f) (k0 : 0 ≤ k) (fk : f + k ≤ ln T) (em : mo = 120 - (ln T - k))
    (hw : ∀ D : NL, wf D 1 → wf (rpl T D f k) 1) (q1 : (rdA E B n false mo).1 = 0 → ∀ h' : Hp, cFrT h h' → h' 10 1 = 0 → h' 597 8 = -1 → cTr (rpl T (rdA E B n false mo).2.2 f k) h' → Q (ln (rpl T (rdA E B n false mo).2.2 f k)) h') (q2 : (rdA E B n false mo).1 ≠ 0 → ∀ h' : Hp, cFrF h h' → h' 10 1 = 0 → h' 597 8 = (rdA E B n false mo).2.1 → Q (-10 - (rdA E B n false mo).1) h') : Good g (d + 45) i9_replaceInTree [LR 9 4, LI f, LI k] S0 h S0 (retI Q) := by
  have n0 := cx.2.1
  have l0 := ln_nn T
  have l1 := ot.2.2.1
  refine g9_replaceInTree (fun _ _ => v9_replaceInTree ?_)
  rw [ct.1.1, w32_id (x := ln T - k) (by omega) (by omega), w32_id (x := 120 - (ln T - k)) (by omega) (by omega), ← em]
  have r := rdA_ok (B := B) (n := n) (ip := false) (mo := mo) ok n0 (by omega)
  have X := c_read (g := g) (d := d) (h := h) (E := E) (B := B) (n := n) (ip := false) (mo := mo) (Q := fun r3 h1 => ((r3 = 0 → Good g (d + 44) i5_replace [LR 5 14, LI f, LI k, LR 5 24] S0 h1 S0 (retV (fun h5 => Good g (d + 44) i5_link [LR 5 14, LR 2 5] S0 h5 S0 (retV (fun h7 => Good g (d + 44) i9_forgetAnswers [LR 9 4] S0 h7 S0 (retV (fun h9 => Q (h9 14 9) h9))))))) ∧ (¬ r3 = 0 → Q (w32 ((-10) - r3)) h1))) ok ce cx (by omega) (by omega) (fun z h1 F1 cn1 t1 p1 => ⟨fun _ => ?_, fun z => absurd rfl z⟩) (fun z h1 F1 t1 p1 => ⟨fun z2 => absurd z2 z, fun _ => ?_⟩)
  · rwa [show cb (false = true) = 0 from cb_f (by decide)] at X
  · obtain ⟨od, wd, ld⟩ := rdA_okT (B := B) (n := n) ok n0 (by omega) (by omega) z
    generalize (rdA E B n false mo).2.2 = D at *
    have d0 := ln_nn D
    have ct1 : cTr T h1 := ct.to (fun a a0 a1 => F1 a (by omega) (by omega) (by omega))
    have ce1 : cE E h1 := ce.to (F1 5 (by decide) (by decide) (by decide)) (F1 6 (by decide) (by decide) (by decide)) (F1 7 (by decide) (by decide) (by decide)) (F1 8 (by decide) (by decide) (by decide)) (F1 9 (by decide) (by decide) (by decide))
    refine f_replace NDs.tree (by decide) (by decide) (by omega) ct1.1 cn1 f0 k0 fk l1 (by omega) (fun h2 cn2 F2 G2 => ?_)
    have ce2 : cE E h2 := ce1.to (F2 5 (by decide)) (F2 6 (by decide)) (F2 7 (by decide)) (F2 8 (by decide)) (F2 9 (by decide))
    have lr := ln_rpl (D := D) f0 k0 fk
    refine f_link ok ce2 NDs.tree (by decide) (by decide) cn2 (by rw [lr]; omega) (okL_rpl ot.1 od.1 f0 k0 fk) (hw D wd) (fun h3 cs3 P3 F3 => f_forget ?_)
    have cn3 : cN 14 (rpl T D f k) h3 := cn2.to (by rw [F3 14 (by decide) (by decide)]) (fun a a0 a1 => F3 _ (by omega) (by omega))
    rw [hup_ne (by decide), hup_ne (by decide), cn3.1]
    have row : ∀ a : Int, a ≠ 4 → a ≠ 603 → hup (hup h3 4 13 0) 603 6 0 a = h3 a := fun a c1 c2 => by rw [hup_r c2, hup_r c1]
    have cs : cTr (rpl T D f k) h3 := ⟨cn3, cs3, P3⟩
    refine q1 z _ ⟨fun a b1 b2 b3 b4 b5 => ?_, fun j hj => ?_, ?_, fun j hj => ?_, hup_at⟩ ?_ ?_ (cs.to (fun a a0 a1 => row a (by omega) (by omega)))
    · rw [row a b4 b5, F3 a (by omega) (by omega), F2 a (by omega)]
      exact F1 a b1 b2 (by omega)
    · rw [hup_ne (by decide), hup_nj hj, F3 4 (by decide) (by decide), F2 4 (by decide), F1 4 (by decide) (by decide) (by decide)]
    · rw [hup_ne (by decide), hup_at]
    · rw [hup_nj hj, hup_ne (by decide), F3 603 (by decide) (by decide), F2 603 (by decide), F1 603 (by decide) (by decide) (by decide)]
    · rw [row 10 (by decide) (by decide), F3 10 (by decide) (by decide), F2 10 (by decide), t1]
    · rw [row 597 (by decide) (by decide), F3 597 (by decide) (by decide), F2 597 (by decide), p1]
  · rw [w32_id (by have := r.2.2.1; have := r.2.2.2.1; omega) (by have := r.2.2.1; omega)]
    exact q2 z h1 (fun a b1 b2 b3 => F1 a b1 b2 b3) t1 p1
theorem x_tree (ok : okE E) (ce : cE E h) (cx : cX 10 1000 B n h) (ct : cTr T h) (ot : okT E T) (q1 : (rdA E B n false 120).1 = 0 → ∀ h' : Hp, cFrT h h' → h' 10 1 = 0 → h' 597 8 = -1 → cTr (rdA E B n false 120).2.2 h' → Q (ln (rdA E B n false 120).2.2) h') (q2 : (rdA E B n false 120).1 ≠ 0 → ∀ h' : Hp, cFrF h h' → h' 10 1 = 0 → h' 597 8 = (rdA E B n false 120).2.1 → Q (-10 - (rdA E B n false 120).1) h') : Good g (d + 46) i9_tree [LR 9 4] S0 h S0 (retI Q) := by
  have l0 := ln_nn T
  refine g9_tree (v9_tree ?_)
  rw [ct.1.1]
  refine x_rpl ok ce cx ct ot (by decide) l0 (by omega) (mo := 120) (by omega) (fun D w => by rw [rpl_all]; exact w) (fun z h' F t p c => ?_) q2
  rw [rpl_all] at c ⊢
  exact q1 z h' F t p c
theorem x_change (ok : okE E) (ce : cE E h) (cx : cX 10 1000 B n h) (ct : cTr T h) (ot : okT E T) {x mo : Int} (em : mo = 120 - ln T + sz T x) (q0 : ¬ (0 ≤ x ∧ x < ln T) → Q (-1001) h) (q1 : 0 ≤ x → x < ln T → (rdA E B n false mo).1 = 0 → ∀ h' : Hp, cFrT h h' → h' 10 1 = 0 → h' 597 8 = -1 → cTr (rpl T (rdA E B n false mo).2.2 x (sz T x)) h' → Q (ln (rpl T (rdA E B n false mo).2.2 x (sz T x))) h') (q2 : 0 ≤ x → x < ln T → (rdA E B n false mo).1 ≠ 0 → ∀ h' : Hp, cFrF h h' → h' 10 1 = 0 → h' 597 8 = (rdA E B n false mo).2.1 → Q (-10 - (rdA E B n false mo).1) h') : Good g (d + 46) i9_change [LR 9 4, LI x] S0 h S0 (retI Q) := by
  refine g9_change (fun _ => v9_change (f_has (by decide) ct.1.1 (bn (fun c => ?_) q0)))
  have l1 := ot.2.2.1
  refine ⟨c.1, by omega, ?_⟩
  have w : wf T 1 := by
    rcases ot.2.1 with z | z
    · subst z
      exact absurd c.2 (by show ¬ x < 0; omega)
    · exact z
  have e : h 23 x = sz T x := ct.2.1 x c.1 c.2
  rw [e]
  have s0 := sz_pos c.1 c.2
  exact x_rpl ok ce cx ct ot c.1 (by omega) (sz_le c.1 c.2) (mo := mo) (by omega) (fun D wd => wf_rpl w wd c.1 c.2) (q1 c.1 c.2) (q2 c.1 c.2)
end
