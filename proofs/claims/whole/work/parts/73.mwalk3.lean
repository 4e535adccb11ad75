/-! MATCHING, the model: keep, holds, going back -/
section
variable {g : Gl} {d : Nat} {h h0 : Hp} {E : Ev} {P T : NL} {pp G M : Int} {cs : List Cho} {s : St} {fill : Fl}
theorem m_keep {Q : Hp → Prop} (A : mAn s h) (os : okSt s) (hf : ∀ k : Int, 0 ≤ k → k < 10 → h 644 k = fill k) (q : ∀ h' : Hp, mAn (kpW fill s) h' → (∀ a : Int, a ≠ 608 → a ≠ 652 → h' a = h a) → (∀ j : Int, j ≠ 63 → j ≠ 64 → h' 608 j = h 608 j) → Q h') : Good g (d + 1) i10_keep [LR 10 608] S0 h S0 (retV Q) := by
  obtain ⟨A1, A2, A3, A4, A5⟩ := id A
  have l30 := os.2.2.2.2
  have get : ∀ i : Nat, (hi : i < s.2.2.2.length) → s.2.2.2.getD i (fun _ => 0) ∈ s.2.2.2 := fun i hi => by
    rw [List.getD_eq_getElem?_getD, List.getElem?_eq_getElem hi]
    exact List.getElem_mem _
  have outer : ∀ (m y : Nat), y + m = s.2.2.2.length → (∀ i : Nat, i < y → ¬ feq (s.2.2.2.getD i (fun _ => 0)) fill) → L0 g d m10_keep (retV Q) 2 [some (LR 10 608), some (LI y), none, none] h := by
    intro m
    induction m with
    | zero =>
      intro y hy no
      have nn : ¬ ∃ f ∈ s.2.2.2, feq f fill := by
        rintro ⟨f, hf1, hf2⟩
        obtain ⟨i, hi, e⟩ := List.mem_iff_getElem.mp hf1
        refine no i (by omega) ?_
        rw [List.getD_eq_getElem?_getD, List.getElem?_eq_getElem hi]
        show feq s.2.2.2[i] fill
        rw [e]
        exact hf2
      unfold kpW at q
      rw [if_neg nn] at q
      refine v10_keep_2 ?_
      rw [A4]
      refine ⟨fun _ => ⟨fun c => ?_, fun c h3 k3 => ?_⟩, fun z => absurd (by omega) z⟩
      · rw [if_neg (by omega)] at q
        have lp : ∀ (m2 : Nat) (k : Int) (h2 : Hp), 0 ≤ k → k + m2 = 10 → (∀ a : Int, a ≠ 652 → h2 a = h a) → (∀ i : Int, ¬ (10 * ((s.2.2.2.length : Nat) : Int) ≤ i) → h2 652 i = h 652 i) → (∀ j : Int, 0 ≤ j → j < k → h2 652 (10 * ((s.2.2.2.length : Nat) : Int) + j) = fill j) → L0 g d m10_keep (retV Q) 84 [some (LR 10 608), some (LI k), none, none] h2 := by
          intro m2
          induction m2 with
          | zero =>
            intro k h2 k0 hk F2 O2 R2
            have e64 : h2 608 64 = (s.2.2.2.length : Nat) := by rw [F2 608 (by decide), A4]
            refine v10_keep_84 ⟨fun _ h3 k3 => ?_, fun z => absurd (by omega) z⟩
            rw [e64, w32_id (by omega) (by omega)] at k3
            have f3 : ∀ j : Int, j ≠ 64 → h3 608 j = h 608 j := fun j hj => by rw [k3, hup_nj hj, F2 608 (by decide)]
            refine q h3 ⟨by rw [f3 61 (by decide)]; exact A1, by rw [f3 62 (by decide)]; exact A2, by rw [f3 63 (by decide)]; exact A3, by rw [k3, hup_at]; simp, fun i hi k b0 b1 => ?_⟩ (fun a c1 c2 => by rw [k3, hup_r c1]; exact F2 a c2) (fun j _ c2 => f3 j c2)
            simp only [List.length_append, List.length_cons, List.length_nil] at hi
            rw [k3, hup_ne (by decide), List.getD_eq_getElem?_getD]
            by_cases ci : i = s.2.2.2.length
            · rw [ci, R2 k b0 (by omega), List.getElem?_append_right (by omega)]
              simp
            · rw [O2 _ (by omega), A5 i (by omega) k b0 b1, List.getD_eq_getElem?_getD, List.getElem?_append_left (by omega)]
          | succ m2 ih2 =>
            intro k h2 k0 hk F2 O2 R2
            have e64 : h2 608 64 = (s.2.2.2.length : Nat) := by rw [F2 608 (by decide), A4]
            have e44 : h2 644 k = fill k := by rw [F2 644 (by decide)]; exact hf k k0 (by omega)
            refine v10_keep_84 ⟨fun z => absurd z (by omega), fun _ => ?_⟩
            rw [e64, e44, w32_id (x := 10 * ((s.2.2.2.length : Nat) : Int)) (by omega) (by omega), w32_id (x := 10 * ((s.2.2.2.length : Nat) : Int) + k) (by omega) (by omega), w32_id (x := k + 1) (by omega) (by omega)]
            refine ⟨k0, by omega, by omega, by omega, fun h3 k3 => ih2 (k + 1) h3 (by omega) (by omega) (fun a ha => by rw [k3, hup_r ha]; exact F2 a ha) (fun i hi => by rw [k3, hup_nj (by omega)]; exact O2 i hi) (fun j j0 j1 => ?_)⟩
            by_cases cj : j = k
            · subst cj
              rw [k3, hup_at]
            · rw [k3, hup_nj (by omega)]
              exact R2 j j0 (by omega)
        exact lp 10 0 h (by decide) (by decide) (fun _ _ => rfl) (fun _ _ => rfl) (fun j j0 j1 => by omega)
      · rw [if_pos (by omega)] at q
        refine q h3 ⟨by rw [k3, hup_nj (by decide)]; exact A1, by rw [k3, hup_nj (by decide)]; exact A2, by rw [k3, hup_at], by rw [k3, hup_nj (by decide)]; exact A4, fun i hi k b0 b1 => by rw [k3, hup_ne (by decide)]; exact A5 i hi k b0 b1⟩ (fun a c1 _ => by rw [k3, hup_r c1]) (fun j c1 _ => by rw [k3, hup_nj c1])
    | succ m ih =>
      intro y hy no
      have inner : ∀ (m2 : Nat) (k : Int) (b : Prop), 0 ≤ k → k + m2 = 10 → (b ↔ ∀ j : Int, 0 ≤ j → j < k → (s.2.2.2.getD y (fun _ => 0)) j = fill j) → L0 g d m10_keep (retV Q) 14 [some (LR 10 608), some (LI y), some (LI (cb b)), some (LI k)] h := by
        intro m2
        induction m2 with
        | zero =>
          intro k b k0 hk hb
          refine v10_keep_14 ⟨fun _ => bz (fun c => ?_) (fun c => ?_), fun z => absurd (by omega) z⟩
          · rw [w32_id (by omega) (by omega)]
            refine ih (y + 1) (by omega) (fun i hi => ?_)
            by_cases ci : i = y
            · subst ci
              exact fun z => c (hb.mpr (fun j j0 j1 => z j j0 (by omega)))
            · exact no i (by omega)
          · have ex : ∃ f ∈ s.2.2.2, feq f fill := ⟨_, get y (by omega), fun j j0 j1 => hb.mp c j j0 (by omega)⟩
            unfold kpW at q
            rw [if_pos ex] at q
            exact q h A (fun _ _ _ => rfl) (fun _ _ _ => rfl)
        | succ m2 ih2 =>
          intro k b k0 hk hb
          refine v10_keep_14 ⟨fun z => absurd z (by omega), fun _ => bz (fun c => ?_) (fun c => ?_)⟩
          · rw [w32_id (by omega) (by omega), ← cb_f (p := False) id]
            exact ih2 (k + 1) False (by omega) (by omega) ⟨fun z => z.elim, fun z => c (hb.mpr (fun j j0 j1 => z j j0 (by omega)))⟩
          · rw [w32_id (x := 10 * (y : Int)) (by omega) (by omega), w32_id (x := 10 * (y : Int) + k) (by omega) (by omega), w32_id (x := k + 1) (by omega) (by omega), A5 y (by omega) k k0 (by omega), hf k k0 (by omega)]
            refine ⟨by omega, by omega, k0, by omega, fun c2 => ?_, fun c2 => ?_⟩
            · rw [← cb_f (p := False) id]
              exact ih2 (k + 1) False (by omega) (by omega) ⟨fun z => z.elim, fun z => c2 (z k k0 (by omega))⟩
            · have X := ih2 (k + 1) True (by omega) (by omega) ⟨fun _ j j0 j1 => ?_, fun _ => trivial⟩
              · rwa [cb_t trivial] at X
              · by_cases cj : j = k
                · subst cj; exact c2
                · exact hb.mp c j j0 (by omega)
      refine v10_keep_2 ⟨fun z => absurd z (by rw [A4]; omega), fun _ => ?_⟩
      have X := inner 10 0 True (by decide) (by decide) ⟨fun _ j j0 j1 => by omega, fun _ => trivial⟩
      rwa [cb_t trivial] at X
  exact g10_keep (v10_keep (outer s.2.2.2.length 0 (by omega) (fun i hi => by omega)))
/-- holds: a hole over against a node -/
theorem m_holds {Q : Int → Hp → Prop} (H : MHs E P T pp h) {p t : Int} (p0 : 0 ≤ p) (p1 : p < ln P) (t0 : 0 ≤ t) (t1 : t < ln T) (s2 : nd P p 0 = 2) (hf : ∀ k : Int, 0 ≤ k → k < 10 → h 644 k = fill k) (of : okFl T fill)
    (q0 : ¬ fhG E P T p t → Q 0 h) (q1 : fhG E P T p t → nd P p 3 < 0 → Q 1 h) (q2 : fhG E P T p t → ¬ nd P p 3 < 0 → fill (nd P p 3) = -1 → ∀ h' : Hp, h' = hup h 644 (nd P p 3) t → Q 1 h') (q3 : fhG E P T p t → ¬ nd P p 3 < 0 → fill (nd P p 3) ≠ -1 → Q (cb (alk T (fill (nd P p 3)) t)) h) : Good g (d + 2) i10_holds [LR 10 608, LI (24 * pp + p), LI t] S0 h S0 (retI Q) := by
  obtain ⟨a1, a2, a3, a4, a5, a6, a7, a8, a9, a10⟩ := id H
  have op := a8 p p0 p1
  have ot := a4.1 t t0 t1
  have tt := a4.2.2.2 t t0 t1
  have lT := a4.2.2.1
  have M := a7.2 p p0 p1
  have t9 := ot.p9 a1
  have fin : fhG E P T p t → ∀ {X : Prop}, ((0 ≤ nd P p 3 → nd P p 3 < 10 ∧ ((h 644 (nd P p 3) < 0 → ∀ h12 : Hp, h12 = hup h 644 (nd P p 3) t → Q 1 h12) ∧ (¬ h 644 (nd P p 3) < 0 → Good g (d + 1) i10_areAlike [LR 10 608, LI (h 644 (nd P p 3)), LI t] S0 h S0 (retI (fun r15 h13 => (r15 = 0 ∨ r15 = 1) ∧ Q r15 h13))))) ∧ (¬ 0 ≤ nd P p 3 → Q 1 h) → X) → X := by
    intro hfh X k
    refine k ⟨fun c => ⟨by rcases op with o | o | o | o <;> omega, ?_⟩, fun c => q1 hfh (by omega)⟩
    have nm : nd P p 3 < 10 := by rcases op with o | o | o | o <;> omega
    rw [hf _ c nm]
    have o3 := of _ c nm
    refine ⟨fun c2 h12 k12 => q2 hfh (by omega) (by omega) h12 k12, fun c2 => m_areAlike a3 lT (by omega) (by omega) t0 t1 ⟨cb_01 _, q3 hfh (by omega) (by omega)⟩⟩
  refine g10_holds (fun _ _ => v10_holds (m_kindOf a1 a2 a3 lT t0 t1 ot ⟨by omega, by omega, m_lies a1 a2 t9.1 t9.2 ?_⟩))
  rw [M.2.2.2.2.1, M.2.2.2.1, M.2.2.2.2.2.1, (a3.2 t t0 t1).1, (a3.2 t t0 t1).2.1]
  simp only [lc_lt, lc_le]
  refine bn (fun c => fun _ => ⟨fun c2 => ?_, fun c2 => ⟨t0, by omega, fun c3 => ?_, fun c3 => ?_⟩⟩) (fun c => q0 (fun z => c z.2.2.1))
  · exact fin ((fhG_in p0 p1 t0 t1).mp ⟨c, fun z => by omega⟩) (fun k => k)
  · refine q0 (fun z => ?_)
    have n4 : nd P p 4 = 1 := by rcases op with o | o | o | o <;> omega
    have := (z.2.2.2 n4).1
    rcases ot with u | u | u | u <;> omega
  · have n4 : nd P p 4 = 1 := by rcases op with o | o | o | o <;> omega
    have t1' : nd T t 0 = 1 := by rcases ot with u | u | u | u <;> omega
    rw [(M.2.2.2.2.2.2.1 n4).1, (M.2.2.2.2.2.2.1 n4).2]
    refine ⟨fun c4 => q0 (fun z => by have := (z.2.2.2 n4).2.1; omega), fun c4 => ⟨fun c5 => ?_, fun c5 => q0 (fun z => by have := (z.2.2.2 n4).2.2; omega)⟩⟩
    exact fin ((fhG_in p0 p1 t0 t1).mp ⟨c, fun _ => ⟨t1', by omega, c5⟩⟩) (fun k => k)
end
/-- the loop of fitAll -/
def KL (g : Gl) (D : Nat) (Q : Hp → Prop) (h : Hp) : Prop := L0 g D m10_fitAll (retV Q) 67 [some (LR 10 608), none, none, some (LI 1), none] h
/-- a state of the loop: what is still to be fit, what is filled, the choices -/
def MWS (h0 : Hp) (P T : NL) (pp : Int) (L : List (Int × Int)) (fill : Fl) (cs : List Cho) (s : St) (h : Hp) : Prop := ∃ G : Int, MBS h0 P T pp G (4 * s.1 - 3) cs s h ∧ G ≤ 1 + 4 * s.1 ∧ (cs.length : Int) ≤ s.1 ∧ gl pp h G L (h 608 66) ∧ (∀ k : Int, 0 ≤ k → k < 10 → h 644 k = fill k) ∧ okFl T fill ∧ okG P T L
def MGo (g : Gl) (D : Nat) (Q : Hp → Prop) (h0 : Hp) (P T : NL) (pp : Int) (L : List (Int × Int)) (fill : Fl) (cs : List Cho) (s : St) : Prop := ∀ h : Hp, MWS h0 P T pp L fill cs s h → KL g D Q h
/-- the end -/
def Fin_ (Q : Hp → Prop) (h0 : Hp) (s : St) : Prop := ∀ h : Hp, mFrm h0 h → mAn s h → Q h
/-- what is owed when the latest choice is taken up -/
noncomputable def bk (g : Gl) (D : Nat) (Q : Hp → Prop) (h0 : Hp) (P T : NL) (pp : Int) (cs : List Cho) (s : St) : Prop :=
  if s.2.1 = 1 ∨ s.2.2.1 = 1 then Fin_ Q h0 s else match cs with
    | [] => Fin_ Q h0 s
    | e :: cs => if e.1 = 0 then MGo g D Q h0 P T pp (prt P T e.2.1 e.2.2.1 (nd P e.2.1 7).toNat e.2.2.2.1.toNat (nd P e.2.1 7).toNat 0 ++ e.2.2.2.2.1) e.2.2.2.2.2 (if e.2.2.2.1 + 1 = (nO P e.2.1 : Nat) then cs else (e.1, e.2.1, e.2.2.1, e.2.2.2.1 + 1, e.2.2.2.2) :: cs) s
      else if e.1 = 1 then MGo g D Q h0 P T pp ((e.2.1, e.2.2.2.1) :: e.2.2.2.2.1) e.2.2.2.2.2 (if e.2.2.2.1 + 1 = e.2.2.1 + sz T e.2.2.1 then cs else (e.1, e.2.1, e.2.2.1, e.2.2.2.1 + 1, e.2.2.2.2) :: cs) s
      else if e.2.2.2.1 + 1 < e.2.2.1 + sz T e.2.2.1 then MGo g D Q h0 P T pp [(e.2.1, e.2.2.2.1 + 1), (-2, 0)] e.2.2.2.2.2 ((e.1, e.2.1, e.2.2.1, e.2.2.2.1 + 1, e.2.2.2.2) :: cs) s
      else MGo g D Q h0 P T pp e.2.2.2.2.1 e.2.2.2.2.2 cs s
