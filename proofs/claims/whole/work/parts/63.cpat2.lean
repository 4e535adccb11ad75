/-! PATTERNS, the class: put in, taken out, told. P p: whether it is there, its rank, its nodes -/
abbrev Ps : Type := Int → Int × Int × NL
def okP (E : Ev) (P : Ps) : Prop := ∀ p : Int, 0 ≤ p → p < 40 → ((P p).1 = 0 ∨ (P p).1 = 1) ∧ ln (P p).2.2 ≤ 24 ∧ ((P p).1 = 1 → okL E (P p).2.2 ∧ wf (P p).2.2 1 ∧ 0 ≤ (P p).2.1 ∧ (P p).2.1 ≤ 1000)
def cPS (P : Ps) (h : Hp) : Prop := ∀ p : Int, 0 ≤ p → p < 40 → h (35 + 14 * p) 3 = (P p).1 ∧ cN (35 + 14 * p + 1) (P p).2.2 h ∧ ((P p).1 = 1 → h (35 + 14 * p) 4 = (P p).2.1 ∧ cPt (35 + 14 * p) (P p).2.2 h)
def pset (P : Ps) (q : Int) (v : Int × Int × NL) : Ps := fun p => if p = q then v else P p
theorem pset_at {P : Ps} {q : Int} {v : Int × Int × NL} : pset P q v q = v := by unfold pset; rw [if_pos rfl]
theorem pset_ne {P : Ps} {p q : Int} {v : Int × Int × NL} (h : p ≠ q) : pset P q v p = P p := by unfold pset; rw [if_neg h]
/-- one pattern's rows as they were -/
theorem cPS_1 {P : Ps} {h h' : Hp} {p : Int} (H : h (35 + 14 * p) 3 = (P p).1 ∧ cN (35 + 14 * p + 1) (P p).2.2 h ∧ ((P p).1 = 1 → h (35 + 14 * p) 4 = (P p).2.1 ∧ cPt (35 + 14 * p) (P p).2.2 h)) (e : ∀ a : Int, 35 + 14 * p ≤ a → a ≤ 35 + 14 * p + 11 → h' a = h a) : h' (35 + 14 * p) 3 = (P p).1 ∧ cN (35 + 14 * p + 1) (P p).2.2 h' ∧ ((P p).1 = 1 → h' (35 + 14 * p) 4 = (P p).2.1 ∧ cPt (35 + 14 * p) (P p).2.2 h') := by
  have eb := e (35 + 14 * p) (by omega) (by omega)
  refine ⟨by rw [eb]; exact H.1, H.2.1.to (by rw [e (35 + 14 * p + 1) (by omega) (by omega)]) (fun k k0 k1 => e _ (by omega) (by omega)), fun z => ⟨by rw [eb]; exact (H.2.2 z).1, (H.2.2 z).2.to (fun a a0 a1 => e a (by omega) (by omega)) (by rw [eb]) (by rw [eb]) (by rw [eb])⟩⟩
theorem cPS.to {P : Ps} {h h' : Hp} (H : cPS P h) (e : ∀ p a : Int, 0 ≤ p → p < 40 → 35 + 14 * p ≤ a → a ≤ 35 + 14 * p + 11 → h' a = h a) : cPS P h' := fun p p0 p1 => cPS_1 (H p p0 p1) (fun a a0 a1 => e p a p0 p1 a0 a1)
/-- the least free number from y on -/
def frF (P : Ps) : Nat → Int → Int
  | 0, _ => -1
  | m + 1, y => if (P y).1 = 0 then y else frF P m (y + 1)
theorem frF_p {P : Ps} : ∀ (m : Nat) (y : Int), 0 ≤ y → (frF P m y = -1 ∧ ∀ p : Int, y ≤ p → p < y + m → (P p).1 ≠ 0) ∨ (y ≤ frF P m y ∧ frF P m y < y + m ∧ (P (frF P m y)).1 = 0 ∧ ∀ p : Int, y ≤ p → p < frF P m y → (P p).1 ≠ 0)
  | 0, y, y0 => Or.inl ⟨rfl, fun p a b => by omega⟩
  | m + 1, y, y0 => by
    unfold frF
    by_cases c : (P y).1 = 0
    · rw [if_pos c]
      exact Or.inr ⟨by omega, by omega, c, fun p a b => by omega⟩
    · rw [if_neg c]
      rcases frF_p (P := P) m (y + 1) (by omega) with ⟨e, z⟩ | ⟨a, b, e, z⟩
      · refine Or.inl ⟨e, fun p p0 p1 => ?_⟩
        by_cases cp : p = y
        · rw [cp]; exact c
        · exact z p (by omega) (by omega)
      · refine Or.inr ⟨by omega, by omega, e, fun p p0 p1 => ?_⟩
        by_cases cp : p = y
        · rw [cp]; exact c
        · exact z p (by omega) p1
def prs (P : Ps) : Int := cntF (fun p => (P p).1) 40
section
variable {g : Gl} {d : Nat} {h : Hp} {E : Ev} {B : Int → Int} {n : Int} {P : Ps} {Q : Int → Hp → Prop}
theorem x_patternOf (op : okP E P) (cp : cPS P h) {x : Int} (q0 : ¬ (0 ≤ x ∧ x < 40 ∧ (P x).1 = 1) → Q 0 h) (q1 : 0 ≤ x → x < 40 → (P x).1 = 1 → Q (35 + 14 * x) h) : Good g (d + 1) i9_patternOf [LR 9 4, LI x] S0 h S0 (retR 6 Q) := by
  refine g9_patternOf (fun _ => v9_patternOf ⟨fun c => q0 (by omega), fun c => ⟨fun c2 => q0 (by omega), fun c2 => ⟨by omega, by omega, fun _ => ?_⟩⟩⟩)
  have o := (op x (by omega) (by omega)).1
  rw [(cp x (by omega) (by omega)).1]
  exact ⟨fun z => q0 (by omega), fun z => q1 (by omega) (by omega) (by omega)⟩
theorem x_freeNumber (cp : cPS P h) (q : Q (frF P 40 0) h) : Good g (d + 1) i9_freeNumber [LR 9 4] S0 h S0 (retI Q) := by
  have lp : ∀ (m : Nat) (y : Int), 0 ≤ y → y + m = 40 → Q (frF P m y) h → L0 g d m9_freeNumber (retI Q) 2 [some (LR 9 4), some (LI y)] h := by
    intro m
    induction m with
    | zero =>
      intro y y0 hy q
      exact v9_freeNumber_2 ⟨fun _ => q, fun z => absurd (by omega) z⟩
    | succ m ih =>
      intro y y0 hy q
      unfold frF at q
      refine v9_freeNumber_2 ⟨fun z => absurd z (by omega), fun _ => ⟨y0, by omega, fun _ => ?_⟩⟩
      rw [(cp y y0 (by omega)).1, w32_id (by omega) (by omega)]
      refine ⟨fun c => ?_, fun c => ?_⟩
      · rw [if_neg c] at q
        exact ih (y + 1) (by omega) (by omega) q
      · rwa [if_pos c] at q
  exact g9_freeNumber (v9_freeNumber (lp 40 0 (by decide) (by decide) q))
theorem x_asInt {x : Int} (hx : x = 0 ∨ x = 1) (q : Q x h) : Good g (d + 1) i9_asInt [LI x] S0 h S0 (retI Q) := by
  refine g9_asInt (fun _ => v9_asInt ⟨fun c => ?_, fun c => ?_⟩)
  · rwa [c] at q
  · rwa [show x = 1 by omega] at q
theorem x_present (op : okP E P) (cp : cPS P h) (q : Q (prs P) h) : Good g (d + 2) i9_presentPatterns [LR 9 4] S0 h S0 (retI Q) := by
  have ho : ∀ p : Int, 0 ≤ p → p < 40 → (P p).1 = 0 ∨ (P p).1 = 1 := fun p p0 p1 => (op p p0 p1).1
  have bd : ∀ k : Nat, k ≤ 40 → 0 ≤ cntF (fun p => (P p).1) k ∧ cntF (fun p => (P p).1) k ≤ k := by
    intro k
    induction k with
    | zero => intro _; exact ⟨by simp [cntF], by simp [cntF]⟩
    | succ k ih =>
      intro hk
      have := ih (by omega)
      have := ho k (by omega) (by omega)
      simp only [cntF]
      omega
  have lp : ∀ (m y : Nat), y + m = 40 → L0 g (d + 1) m9_presentPatterns (retI Q) 4 [some (LR 9 4), some (LI (cntF (fun p => (P p).1) y)), some (LI y)] h := by
    intro m
    induction m with
    | zero =>
      intro y hy
      refine v9_presentPatterns_4 ⟨fun _ => ?_, fun z => absurd (by omega) z⟩
      rw [show y = 40 by omega]
      exact q
    | succ m ih =>
      intro y hy
      have o := ho y (by omega) (by omega)
      have b := bd y (by omega)
      refine v9_presentPatterns_4 ⟨fun z => absurd z (by omega), fun _ => ⟨by omega, by omega, fun _ => ?_⟩⟩
      rw [(cp y (by omega) (by omega)).1]
      refine x_asInt o ?_
      rw [w32_id (by omega) (by omega), w32_id (by omega) (by omega)]
      exact ih (y + 1) (by omega)
  exact g9_presentPatterns (v9_presentPatterns (lp 40 0 (by decide)))
/-- in the net -/
def inN (P : Ps) (p : Int) : Prop := (P p).1 = 1 ∧ wld (P p).2.2 = 0
theorem x_isInNet (op : okP E P) (cp : cPS P h) {p : Int} (p0 : 0 ≤ p) (p1 : p < 40) (q : Q (cb (inN P p)) h) : Good g (d + 1) i6_isInNet [LR 6 (35 + 14 * p)] S0 h S0 (retI Q) := by
  refine g6_isInNet (fun _ => v6_isInNet (by omega) (fun _ => ?_))
  have o := (op p p0 p1).1
  have H := cp p p0 p1
  rw [H.1]
  refine ⟨fun c => ?_, fun c => ?_⟩
  · rwa [cb_f (fun z => by have := z.1; omega)] at q
  · have z : (P p).1 = 1 := by omega
    rw [(H.2.2 z).2.2.2.2.2.2.2]
    refine ⟨fun c2 => ?_, fun c2 => ?_⟩
    · rwa [cb_f (fun w => c2 w.2)] at q
    · rwa [cb_t ⟨z, c2⟩] at q
/-- what a new pattern p leaves as it was -/
def cFrP (h h' : Hp) (p : Int) : Prop := (∀ a : Int, a ≠ 597 → a ≠ 10 → ¬ (24 ≤ a ∧ a ≤ 31) → ¬ (35 + 14 * p ≤ a ∧ a ≤ 35 + 14 * p + 11) → a ≠ 4 → a ≠ 603 → h' a = h a) ∧ (∀ j : Int, j ≠ 13 → h' 4 j = h 4 j) ∧ h' 4 13 = 0 ∧ (∀ j : Int, j ≠ 6 → h' 603 j = h 603 j) ∧ h' 603 6 = 0
theorem x_pattern (ok : okE E) (op : okP E P) (ce : cE E h) (cx : cX 10 1000 B n h) (cp : cPS P h) {rk : Int} (q0 : ¬ (0 ≤ rk ∧ rk ≤ 1000) → Q (-1002) h) (q1 : 0 ≤ rk → rk ≤ 1000 → frF P 40 0 = -1 → Q (-1004) h)
    (q2 : 0 ≤ rk → rk ≤ 1000 → frF P 40 0 ≠ -1 → (rdA E B n true 24).1 ≠ 0 → ∀ h' : Hp, cFrF h h' → h' 10 1 = 0 → h' 597 8 = (rdA E B n true 24).2.1 → Q (-10 - (rdA E B n true 24).1) h')
    (q3 : 0 ≤ rk → rk ≤ 1000 → frF P 40 0 ≠ -1 → (rdA E B n true 24).1 = 0 → ∀ h' : Hp, cFrP h h' (frF P 40 0) → h' 10 1 = 0 → h' 597 8 = -1 → cPS (pset P (frF P 40 0) (1, rk, (rdA E B n true 24).2.2)) h' → Q (frF P 40 0) h') : Good g (d + 45) i9_pattern [LR 9 4, LI rk] S0 h S0 (retI Q) := by
  have n0 := cx.2.1
  refine g9_pattern (fun _ => v9_pattern ⟨fun c => q0 (by omega), fun c => ⟨fun c2 => x_freeNumber cp ⟨fun c3 => ?_, fun c3 => q1 (by omega) c2 c3⟩, fun c2 => q0 (by omega)⟩⟩)
  have r := rdA_ok (B := B) (n := n) (ip := true) (mo := 24) ok n0 (by decide)
  have fp := frF_p (P := P) 40 0 (by decide)
  generalize frF P 40 0 = p at *
  have p0 : 0 ≤ p ∧ p < 40 := by omega
  have X := c_read (g := g) (d := d) (h := h) (E := E) (B := B) (n := n) (ip := true) (mo := 24) (Q := fun r9 h7 => ((r9 = 0 → 0 ≤ p ∧ p < 40 ∧ Good g (d + 44) i6_take [LR 6 (35 + 14 * p), LR 5 24, LI rk, LR 2 5] S0 h7 S0 (retV (fun h11 => Good g (d + 44) i9_forgetAnswers [LR 9 4] S0 h11 S0 (retV (fun h13 => Q p h13))))) ∧ (¬ r9 = 0 → Q (w32 ((-10) - r9)) h7))) ok ce cx (by decide) (by decide) (fun z h1 F1 cn1 t1 p1 => ⟨fun _ => ⟨p0.1, p0.2, ?_⟩, fun z => absurd rfl z⟩) (fun z h1 F1 t1 p1 => ⟨fun z2 => absurd z2 z, fun _ => ?_⟩)
  · rwa [show cb (true = true) = 1 from cb_t rfl] at X
  · obtain ⟨od, wd, ld⟩ := rdA_okP (B := B) (n := n) (ip := true) ok n0 (by decide) z
    generalize (rdA E B n true 24).2.2 = D at *
    have ce1 : cE E h1 := ce.to (F1 5 (by decide) (by decide) (by decide)) (F1 6 (by decide) (by decide) (by decide)) (F1 7 (by decide) (by decide) (by decide)) (F1 8 (by decide) (by decide) (by decide)) (F1 9 (by decide) (by decide) (by decide))
    have cp1 : cPS P h1 := cp.to (fun p' a b0 b1 a0 a1 => F1 a (by omega) (by omega) (by omega))
    refine f_take ok ce1 p0.1 p0.2 rfl (cp1 p p0.1 p0.2).2.1 (op p p0.1 p0.2).2.1 cn1 od wd ld (fun h2 c2' t2 r2 F2 => f_forget ?_)
    have row : ∀ a : Int, a ≠ 4 → a ≠ 603 → hup (hup h2 4 13 0) 603 6 0 a = h2 a := fun a c1 c2 => by rw [hup_r c2, hup_r c1]
    refine q3 (by omega) c2 c3 z _ ⟨fun a b1 b2 b3 b4 b5 b6 => ?_, fun j hj => ?_, ?_, fun j hj => ?_, hup_at⟩ ?_ ?_ (fun p' p0' p1' => ?_)
    · rw [row a b5 b6, F2 a b4]; exact F1 a b1 b2 b3
    · rw [hup_ne (by decide), hup_nj hj, F2 4 (by omega), F1 4 (by decide) (by decide) (by decide)]
    · rw [hup_ne (by decide), hup_at]
    · rw [hup_nj hj, hup_ne (by decide), F2 603 (by omega), F1 603 (by decide) (by decide) (by decide)]
    · rw [row 10 (by decide) (by decide), F2 10 (by omega), t1]
    · rw [row 597 (by decide) (by decide), F2 597 (by omega), p1]
    · by_cases cq : p' = p
      · subst cq
        have eb := row (35 + 14 * p') (by omega) (by omega)
        rw [pset_at]
        refine ⟨by rw [eb]; exact t2, c2'.1.to (by rw [row (35 + 14 * p' + 1) (by omega) (by omega)]) (fun k k0 k1 => row _ (by omega) (by omega)), fun _ => ⟨by rw [eb]; exact r2, c2'.to (fun a a0 a1 => row a (by omega) (by omega)) (by rw [eb]) (by rw [eb]) (by rw [eb])⟩⟩
      · rw [pset_ne cq]
        exact cPS_1 (cp1 p' p0' p1') (fun a a0 a1 => by rw [row a (by omega) (by omega)]; exact F2 a (by omega))
  · rw [w32_id (by have := r.2.2.1; have := r.2.2.2.1; omega) (by have := r.2.2.1; omega)]
    exact q2 (by omega) c2 c3 z h1 (fun a b1 b2 b3 => F1 a b1 b2 b3) t1 p1
/-- what drop leaves as it was -/
def cFrD (h h' : Hp) (p : Int) : Prop := (∀ a : Int, a ≠ 35 + 14 * p → a ≠ 4 → a ≠ 603 → h' a = h a) ∧ (∀ j : Int, j ≠ 3 → h' (35 + 14 * p) j = h (35 + 14 * p) j) ∧ (∀ j : Int, j ≠ 13 → h' 4 j = h 4 j) ∧ h' 4 13 = 0 ∧ (∀ j : Int, j ≠ 6 → h' 603 j = h 603 j) ∧ h' 603 6 = 0
theorem okP_drop {p : Int} (op : okP E P) (p0 : 0 ≤ p) (p1 : p < 40) : okP E (pset P p (0, (P p).2)) := fun p' p0' p1' => by
  by_cases c : p' = p
  · subst c
    rw [pset_at]
    exact ⟨Or.inl rfl, (op p' p0 p1).2.1, fun z => absurd z (by show ¬ (0 : Int) = 1; decide)⟩
  · rw [pset_ne c]
    exact op p' p0' p1'
theorem x_drop (op : okP E P) (cp : cPS P h) {x : Int} (q0 : ¬ (0 ≤ x ∧ x < 40 ∧ (P x).1 = 1) → Q (-1001) h) (q1 : 0 ≤ x → x < 40 → (P x).1 = 1 → ∀ h' : Hp, cFrD h h' x → cPS (pset P x (0, (P x).2)) h' → Q (prs (pset P x (0, (P x).2))) h') : Good g (d + 3) i9_drop [LR 9 4, LI x] S0 h S0 (retI Q) := by
  refine g9_drop (fun _ => v9_drop (x_patternOf op cp (fun c => ⟨fun z => absurd rfl z, fun _ => q0 c⟩) (fun x0 x1 c => ⟨fun _ h5 k5 => f_forget ?_, fun z => absurd z (by omega)⟩)))
  have row : ∀ a : Int, a ≠ 35 + 14 * x → a ≠ 4 → a ≠ 603 → hup (hup h5 4 13 0) 603 6 0 a = h a := fun a c0 c1 c2 => by rw [hup_r c2, hup_r c1, k5, hup_r c0]
  have cp' : cPS (pset P x (0, (P x).2)) (hup (hup h5 4 13 0) 603 6 0) := fun p' p0' p1' => by
    by_cases cq : p' = x
    · subst cq
      rw [pset_at]
      have H := cp p' p0' p1'
      exact ⟨by rw [hup_ne (by omega), hup_ne (by omega), k5, hup_at], H.2.1.to (by rw [row (35 + 14 * p' + 1) (by omega) (by omega) (by omega)]) (fun k k0 k1 => row _ (by omega) (by omega) (by omega)), fun z => absurd z (by show ¬ (0 : Int) = 1; decide)⟩
    · rw [pset_ne cq]
      exact cPS_1 (cp p' p0' p1') (fun a a0 a1 => row a (by omega) (by omega) (by omega))
  exact x_present (okP_drop op x0 x1) cp' (q1 x0 x1 c _ ⟨row, fun j hj => by rw [hup_ne (by omega), hup_ne (by omega), k5, hup_nj hj], fun j hj => by rw [hup_ne (by decide), hup_nj hj, k5, hup_ne (by omega)], by rw [hup_ne (by decide), hup_at], fun j hj => by rw [hup_nj hj, hup_ne (by decide), k5, hup_ne (by omega)], hup_at⟩ cp')
/-- told -/
noncomputable def tld (P : Ps) (x w : Int) : Int := if ¬ (0 ≤ x ∧ x < 40 ∧ (P x).1 = 1) then -1001 else if w = 0 then (P x).2.1 else if w = 1 then ln (P x).2.2 else if w = 2 then cb (inN P x) else if w = 3 then nmd (P x).2.2 else if w = 4 then unl (P x).2.2 else if w = 5 then wld (P x).2.2 else -1002
theorem x_told (op : okP E P) (cp : cPS P h) {x w : Int} (q : Q (tld P x w) h) : Good g (d + 2) i9_told [LR 9 4, LI x, LI w] S0 h S0 (retI Q) := by
  unfold tld at q
  refine g9_told (fun _ _ => v9_told (x_patternOf op cp (fun c => ⟨fun z => absurd rfl z, fun _ => ?_⟩) (fun x0 x1 c => ⟨fun _ => ?_, fun z => absurd z (by omega)⟩)))
  · rwa [if_pos c] at q
  · rw [if_neg (fun z => z ⟨x0, x1, c⟩)] at q
    have H := cp x x0 x1
    obtain ⟨h4, hp⟩ := H.2.2 c
    rw [h4, hp.2.2.2.2.1, hp.2.2.2.2.2.1, hp.2.2.2.2.2.2, H.2.1.1]
    refine ⟨fun c => ?_, fun c => ?_, fun c => ⟨by omega, ?_⟩, fun c => ?_, fun c => ?_, fun c => ?_, fun c => ?_⟩
    · rwa [if_neg (by omega), if_neg (by omega), if_neg (by omega), if_neg (by omega), if_neg (by omega), if_neg (by omega)] at q
    · rwa [if_pos c] at q
    · rwa [if_neg (by omega), if_pos c] at q
    · rw [if_neg (by omega), if_neg (by omega), if_pos c] at q
      exact x_isInNet op cp x0 x1 (x_asInt (cb_01 _) q)
    · rwa [if_neg (by omega), if_neg (by omega), if_neg (by omega), if_pos c] at q
    · rwa [if_neg (by omega), if_neg (by omega), if_neg (by omega), if_neg (by omega), if_pos c] at q
    · rwa [if_neg (by omega), if_neg (by omega), if_neg (by omega), if_neg (by omega), if_neg (by omega), if_pos c] at q
end
