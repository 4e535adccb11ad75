/-! MATCHING, the model: choices; kind, node of the pattern, node of the tree, where it stands, what is left, what was filled -/
abbrev Cho : Type := Int × Int × Int × Int × List (Int × Int) × Fl
def chs (pp : Int) (h : Hp) : Int → List Cho → Prop
  | _, [] => True
  | B, e :: cs => h 645 (cs.length : Nat) = e.1 ∧ h 646 (cs.length : Nat) = 24 * pp + e.2.1 ∧ h 647 (cs.length : Nat) = e.2.2.1 ∧ h 648 (cs.length : Nat) = e.2.2.2.1 ∧ (∀ k : Int, 0 ≤ k → k < 10 → h 651 (10 * ((cs.length : Nat) : Int) + k) = e.2.2.2.2.2 k) ∧ 0 ≤ h 650 (cs.length : Nat) ∧ h 650 (cs.length : Nat) ≤ B ∧ gl pp h (h 650 (cs.length : Nat)) e.2.2.2.2.1 (h 649 (cs.length : Nat)) ∧ chs pp h (h 650 (cs.length : Nat)) cs
theorem chs.to {pp : Int} {h h' : Hp} : ∀ {cs : List Cho} {B B' : Int}, chs pp h B cs → B ≤ B' → (∀ i : Int, 0 ≤ i → i < B → h' 641 i = h 641 i ∧ h' 642 i = h 642 i ∧ h' 643 i = h 643 i) → (∀ a i : Int, 645 ≤ a → a ≤ 650 → 0 ≤ i → i < (cs.length : Nat) → h' a i = h a i) → (∀ i : Int, 0 ≤ i → i < 10 * ((cs.length : Nat) : Int) → h' 651 i = h 651 i) → chs pp h' B' cs
  | [], _, _, _, _, _, _, _ => trivial
  | e :: cs, B, B', H, hB, e1, e2, e3 => by
    obtain ⟨c1, c2, c3, c4, c5, c6, c7, c8, c9⟩ := H
    have ll : ((((e :: cs).length : Nat)) : Int) = (cs.length : Nat) + 1 := by simp
    rw [ll] at e2 e3
    have r : ∀ a : Int, 645 ≤ a → a ≤ 650 → h' a (cs.length : Nat) = h a (cs.length : Nat) := fun a a0 a1 => e2 a _ a0 a1 (by omega) (by omega)
    refine ⟨by rw [r 645 (by decide) (by decide)]; exact c1, by rw [r 646 (by decide) (by decide)]; exact c2, by rw [r 647 (by decide) (by decide)]; exact c3, by rw [r 648 (by decide) (by decide)]; exact c4, fun k k0 k1 => by rw [e3 _ (by omega) (by omega)]; exact c5 k k0 k1, by rw [r 650 (by decide) (by decide)]; exact c6, by rw [r 650 (by decide) (by decide)]; omega, ?_, ?_⟩
    · rw [r 650 (by decide) (by decide), r 649 (by decide) (by decide)]
      exact c8.to (Int.le_refl _) (fun i i0 i1 => e1 i i0 (by omega))
    · rw [r 650 (by decide) (by decide)]
      exact c9.to (Int.le_refl _) (fun i i0 i1 => e1 i i0 (by omega)) (fun a i a0 a1 i0 i1 => e2 a i a0 a1 i0 (by omega)) (fun i i0 i1 => e3 i i0 (by omega))
/-- goals that may be: the mark, or a pair within its rows -/
def okG (P T : NL) (r : List (Int × Int)) : Prop := ∀ e ∈ r, e = (-2, 0) ∨ (0 ≤ e.1 ∧ e.1 < ln P ∧ 0 ≤ e.2 ∧ e.2 < ln T)
def okCh (P T : NL) (e : Cho) : Prop := 0 ≤ e.2.1 ∧ e.2.1 < ln P ∧ 0 ≤ e.2.2.1 ∧ e.2.2.1 < ln T ∧ okG P T e.2.2.2.2.1 ∧ okFl T e.2.2.2.2.2 ∧ ((e.1 = 0 ∧ nd P e.2.1 0 = 0 ∧ nd P e.2.1 1 = nd T e.2.2.1 1 ∧ 1 ≤ e.2.2.2.1 ∧ e.2.2.2.1 < (nO P e.2.1 : Nat)) ∨ (e.1 = 1 ∧ e.2.2.1 < e.2.2.2.1 ∧ e.2.2.2.1 < e.2.2.1 + sz T e.2.2.1) ∨ (e.1 = 2 ∧ e.2.2.1 ≤ e.2.2.2.1 ∧ e.2.2.2.1 < e.2.2.1 + sz T e.2.2.1))
/-- tries, spent, many, what is kept -/
def mAn (s : St) (h : Hp) : Prop := h 608 61 = s.1 ∧ h 608 62 = s.2.1 ∧ h 608 63 = s.2.2.1 ∧ h 608 64 = (s.2.2.2.length : Nat) ∧ ∀ i : Nat, i < s.2.2.2.length → ∀ k : Int, 0 ≤ k → k < 10 → h 652 (10 * i + k) = (s.2.2.2.getD i (fun _ => 0)) k
/-- what stays while the model fits -/
def mFrm (h0 h : Hp) : Prop := (∀ a : Int, a ≠ 608 → ¬ (641 ≤ a ∧ a ≤ 653) → h a = h0 a) ∧ ∀ j : Int, j ≠ 51 → ¬ (60 ≤ j ∧ j ≤ 64) → j ≠ 66 → h 608 j = h0 608 j
/-- goals, choices; M bounds the choices' goals -/
def MBS (h0 : Hp) (P T : NL) (pp G M : Int) (cs : List Cho) (s : St) (h : Hp) : Prop := mFrm h0 h ∧ h 608 51 = G ∧ 0 ≤ G ∧ h 608 60 = (cs.length : Nat) ∧ chs pp h G cs ∧ (∀ i : Int, 0 ≤ i → i < (cs.length : Nat) → h 650 i ≤ M) ∧ mAn s h ∧ okSt s ∧ ∀ e ∈ cs, okCh P T e
/-- more goals -/
def gaS (h h' : Hp) (G G' : Int) : Prop := h' 608 51 = G' ∧ (∀ a i : Int, 641 ≤ a → a ≤ 643 → i < G → h' a i = h a i) ∧ (∀ a : Int, a ≠ 608 → ¬ (641 ≤ a ∧ a ≤ 643) → a ≠ 653 → h' a = h a) ∧ ∀ j : Int, j ≠ 51 → h' 608 j = h 608 j
theorem gaS.tr {h h1 h2 : Hp} {G G1 G2 : Int} (a : gaS h h1 G G1) (b : gaS h1 h2 G1 G2) (hG : G ≤ G1) : gaS h h2 G G2 := ⟨b.1, fun x i x0 x1 hi => (b.2.1 x i x0 x1 (by omega)).trans (a.2.1 x i x0 x1 hi), fun x c1 c2 c3 => (b.2.2.1 x c1 c2 c3).trans (a.2.2.1 x c1 c2 c3), fun j hj => (b.2.2.2 j hj).trans (a.2.2.2 j hj)⟩
theorem mAn.to {s : St} {h h' : Hp} (H : mAn s h) (e : ∀ j : Int, 61 ≤ j → j ≤ 64 → h' 608 j = h 608 j) (e1 : h' 652 = h 652) : mAn s h' := by
  unfold mAn at *
  rw [e 61 (by decide) (by decide), e 62 (by decide) (by decide), e 63 (by decide) (by decide), e 64 (by decide) (by decide), e1]
  exact H
theorem mFrm.ga {h0 h h' : Hp} {G G' : Int} (F : mFrm h0 h) (A : gaS h h' G G') : mFrm h0 h' := ⟨fun a c1 c2 => by rw [A.2.2.1 a c1 (by omega) (by omega)]; exact F.1 a c1 c2, fun j c1 c2 c3 => by rw [A.2.2.2 j c1]; exact F.2 j c1 c2 c3⟩
theorem MBS.ga {h0 h h' : Hp} {P T : NL} {pp G G' M : Int} {cs : List Cho} {s : St} (B : MBS h0 P T pp G M cs s h) (A : gaS h h' G G') (hG : G ≤ G') : MBS h0 P T pp G' M cs s h' := by
  obtain ⟨F, e51, g0, e60, C, bd, An, os, oc⟩ := B
  exact ⟨F.ga A, A.1, by omega, by rw [A.2.2.2 60 (by decide)]; exact e60, C.to hG (fun i i0 i1 => ⟨A.2.1 641 i (by decide) (by decide) i1, A.2.1 642 i (by decide) (by decide) i1, A.2.1 643 i (by decide) (by decide) i1⟩) (fun a i a0 a1 _ _ => by rw [A.2.2.1 a (by omega) (by omega) (by omega)]) (fun i _ _ => by rw [A.2.2.1 651 (by decide) (by decide) (by decide)]), fun i i0 i1 => by rw [A.2.2.1 650 (by decide) (by decide) (by decide)]; exact bd i i0 i1, An.to (fun j j0 j1 => A.2.2.2 j (by omega)) (A.2.2.1 652 (by decide) (by decide) (by decide)), os, oc⟩
theorem mFrm.f {h0 h : Hp} (F : mFrm h0 h) {j v : Int} (hj : j = 51 ∨ (60 ≤ j ∧ j ≤ 64) ∨ j = 66) : mFrm h0 (hup h 608 j v) := ⟨fun a c1 c2 => by rw [hup_r c1]; exact F.1 a c1 c2, fun k c1 c2 c3 => by rw [hup_nj (by omega)]; exact F.2 k c1 c2 c3⟩
/-- the model's rows for fitting -/
def MHs (E : Ev) (P T : NL) (pp : Int) (h : Hp) : Prop := okE E ∧ mE E h ∧ mT T h ∧ okT E T ∧ wf T 1 ∧ (0 ≤ pp ∧ pp < 40) ∧ mPt pp P h ∧ okL E P ∧ wf P 1 ∧ ln P ≤ 24
theorem MHs.fr {E : Ev} {P T : NL} {pp : Int} {h0 h : Hp} (H : MHs E P T pp h0) (F : mFrm h0 h) : MHs E P T pp h := by
  obtain ⟨a1, a2, a3, a4, a5, a6, a7, a8, a9, a10⟩ := H
  exact ⟨a1, a2.to (F.2 0 (by decide) (by decide) (by decide)) (F.2 2 (by decide) (by decide) (by decide)) (F.1 609 (by decide) (by decide)) (F.1 610 (by decide) (by decide)) (F.1 611 (by decide) (by decide)) (F.1 612 (by decide) (by decide)), a3.to (F.2 42 (by decide) (by decide) (by decide)) (F.1 637 (by decide) (by decide)) (F.1 638 (by decide) (by decide)) (F.1 639 (by decide) (by decide)), a4, a5, a6, a7.to (fun a a0 a1 => F.1 a (by omega) (by omega)), a8, a9, a10⟩
section
variable {g : Gl} {d : Nat} {h h0 : Hp} {E : Ev} {P T : NL} {pp G M : Int} {cs : List Cho} {s : St} {fill : Fl} {Q : Int → Hp → Prop}
theorem m_goal2 {p t nx : Int} (hG : h 608 51 = G) (G0 : 0 ≤ G) (G1 : G < 10200) {r : List (Int × Int)} (gr : gl pp h G r nx) (q : ∀ h' : Hp, gaS h h' G (G + 1) → gl pp h' (G + 1) ((p, t) :: r) G → h' 653 = h 653 → Q G h') : Good g (d + 1) i10_goal [LR 10 608, LI (enc pp p), LI t, LI nx] S0 h S0 (retI Q) := by
  refine m_goal hG G0 G1 (fun h' a1 a2 a3 a4 a5 a6 a7 => ?_)
  have ga : gaS h h' G (G + 1) := ⟨a1, fun a i x0 x1 hi => a5 a i x0 x1 (by omega), fun a c1 c2 _ => a6 a c1 c2, a7⟩
  refine q h' ga ⟨G0, by omega, a2, a3, ?_⟩ (a6 653 (by decide) (by decide))
  rw [a4]
  exact gr.to (by omega) (fun i i0 i1 => ⟨a5 641 i (by decide) (by decide) (by omega), a5 642 i (by decide) (by decide) (by omega), a5 643 i (by decide) (by decide) (by omega)⟩)
theorem m_partsBy (H : MHs E P T pp h) {p t nx : Int} {n o : Nat} (hG : h 608 51 = G) (G0 : 0 ≤ G) (G1 : G + 4 < 10200) {r : List (Int × Int)} (gr : gl pp h G r nx) (p0 : 0 ≤ p) (p1 : p < ln P) (t0 : 0 ≤ t) (t1 : t < ln T) (s0 : nd P p 0 = 0) (he : nd P p 1 = nd T t 1) (hn : n = (nd P p 7).toNat) (ho : o < ocT.getD n 0) (q : ∀ (h' : Hp) (l : Int), gaS h h' G (G + n) → gl pp h' (G + n) (prt P T p t n o n 0 ++ r) l → Q l h') : Good g (d + 2) i10_partsBy [LR 10 608, LI (24 * pp + p), LI t, LI o, LI nx] S0 h S0 (retI Q) := by
  obtain ⟨a1, a2, a3, a4, a5, a6, a7, a8, a9, a10⟩ := id H
  have op := a8 p p0 p1
  have o7 := op.p7 a1
  have n4 : n ≤ 4 := by omega
  have lT := a4.2.2.1
  have oc := oc_p n n4
  have o4 := a1.2.2.2.1
  have oh : 0 ≤ nd P p 1 ∧ nd P p 1 < E 0 1 ∧ nd P p 7 = E 3 (nd P p 1) := by
    rcases op with z | z | z | z
    · exact ⟨z.2.1, z.2.2.1, z.2.2.2.2.2.2.2.2.1⟩
    · omega
    · omega
    · omega
  have t7 : (nd T t 7).toNat = n := by
    have ot := a4.1 t t0 t1
    rcases ot with u | u | u | u
    · rw [u.2.2.2.2.2.2.2.2.1, ← he, ← oh.2.2, hn]
    · omega
    · omega
    · omega
  have e29 : h 629 (24 * pp + p) = nd P p 1 := (a7.2 p p0 p1).2.1
  have e11 : h 611 (nd P p 1) = (n : Int) := by rw [(a2.2.2.2 _ oh.1 oh.2.1).2.1, ← oh.2.2]; omega
  refine g10_partsBy (fun _ _ _ _ => v10_partsBy ?_)
  rw [e29, e11]
  have td : w32 (w32 (Int.tdiv (24 * pp + p) 24) * 24) = 24 * pp := by
    have : Int.tdiv (24 * pp + p) 24 = pp := by
      rw [Int.tdiv_eq_ediv_of_nonneg (by omega)]
      omega
    rw [this, w32_id (x := pp) (by omega) (by omega), w32_id (by omega) (by omega)]
    omega
  rw [td, w32_id (by omega) (by omega)]
  refine ⟨by omega, by omega, oh.1, by omega, m_order n4 ho (fun h1 P1 F1 => ?_)⟩
  have ga1 : gaS h h1 G G := ⟨by rw [F1 608 (by decide)]; exact hG, fun a i b0 b1 _ => by rw [F1 a (by omega)], fun a c1 c2 c3 => F1 a c3, fun j _ => by rw [F1 608 (by decide)]⟩
  have lp : ∀ (m : Nat) (h2 : Hp) (l : Int), m ≤ n → gaS h h2 G (G + (n - m : Nat)) → h2 653 = h1 653 → gl pp h2 (G + (n - m : Nat)) (prt P T p t n o (n - m) m ++ r) l → L0 g (d + 1) m10_partsBy (retI Q) 39 [some (LR 10 608), some (LI (24 * pp + p)), some (LI t), none, none, none, some (LI (24 * pp)), some (LI l), some (LI ((m : Int) - 1))] h2 := by
    intro m
    induction m with
    | zero =>
      intro h2 l _ A2 _ L2
      exact v10_partsBy_39 ⟨fun _ => q h2 l A2 L2, fun z => absurd (by omega) z⟩
    | succ m ih =>
      intro h2 l hm A2 e53 L2
      have ob := ord_b n n4 o ho m (by omega)
      have mp2 : mPt pp P h2 := a7.to (fun a b0 b1 => A2.2.2.1 a (by omega) (by omega) (by omega))
      have mt2 : mT T h2 := a3.to (A2.2.2.2 42 (by decide)) (A2.2.2.1 637 (by decide) (by decide) (by decide)) (A2.2.2.1 638 (by decide) (by decide) (by decide)) (A2.2.2.1 639 (by decide) (by decide) (by decide))
      refine v10_partsBy_39 ⟨fun z => absurd z (by omega), fun _ => ?_⟩
      rw [show ((m + 1 : Nat) : Int) - 1 = (m : Nat) by omega]
      have kl := kd_lt a9 p0 p1 (j := m) (by omega)
      have kg := kd_ge (L := P) (i := p) m
      refine m_partOf a6 mp2 a9 a10 p0 p1 (fun j hj => kd_lt a9 p0 p1 (by omega)) (by omega) ⟨by omega, by omega, ?_⟩
      rw [e53, P1 m (by omega)]
      refine m_treePart mt2 lT t0 t1 (fun j hj => kd_lt a5 t0 t1 (by omega)) (by omega) ?_
      have X := m_goal2 (g := g) (d := d) (pp := pp) (h := h2) (G := G + (n - (m + 1) : Nat)) (p := kd P p m) (t := kd T t (ord n o m)) (Q := fun r10 h8 => L0 g (d + 1) m10_partsBy (retI Q) 39 [some (LR 10 608), some (LI (24 * pp + p)), some (LI t), none, none, none, some (LI (24 * pp)), some (LI r10), some (LI (w32 ((m : Int) + (-1))))] h8) A2.1 (by omega) (by omega) L2 (fun h3 A3 L3 x53 => ?_)
      · unfold enc at X
        rw [if_neg (by omega)] at X
        exact X
      · rw [w32_id (by omega) (by omega), show (m : Int) + -1 = (m : Int) - 1 by omega]
        have eq : G + ((n - (m + 1) : Nat) : Int) + 1 = G + ((n - m : Nat) : Int) := by omega
        rw [eq] at A3 L3
        refine ih h3 _ (by omega) (A2.tr A3 (by omega)) (by rw [x53, e53]) ?_
        rw [show n - m = (n - (m + 1)) + 1 by omega] at L3 ⊢
        exact L3
  exact lp n h1 nx (Nat.le_refl _) (by rw [Nat.sub_self]; simpa using ga1) rfl (by rw [Nat.sub_self]; simp [prt]; exact gr.to (Int.le_refl _) (fun i _ _ => ⟨by rw [F1 641 (by decide)], by rw [F1 642 (by decide)], by rw [F1 643 (by decide)]⟩))
/-- choose -/
theorem m_choose {Q : Hp → Prop} (B : MBS h0 P T pp G M cs s h) {kn p t at_ nx : Int} {r : List (Int × Int)} (gr : gl pp h G r nx) (hf : ∀ k : Int, 0 ≤ k → k < 10 → h 644 k = fill k) (GM : G ≤ M) (lc : cs.length < 2050) (oc : okCh P T (kn, p, t, at_, r, fill)) (q : ∀ h' : Hp, MBS h0 P T pp G M ((kn, p, t, at_, r, fill) :: cs) s h' → (∀ a : Int, a ≠ 608 → ¬ (645 ≤ a ∧ a ≤ 651) → h' a = h a) → h' 608 66 = h 608 66 → Q h') : Good g (d + 1) i10_choose [LR 10 608, LI kn, LI (24 * pp + p), LI t, LI at_, LI nx] S0 h S0 (retV Q) := by
  obtain ⟨F, e51, g0, e60, C, bd, An, os, ocs⟩ := B
  generalize hn : ((cs.length : Nat) : Int) = N at *
  have n0 : 0 ≤ N := by omega
  have n1 : N < 2050 := by omega
  refine g10_choose (fun _ _ _ _ _ => v10_choose ?_)
  rw [e60]
  refine ⟨n0, by omega, fun h1 k1 => ?_⟩
  have a1 : h1 608 60 = N := by rw [k1, hup_ne (by decide), e60]
  rw [a1]
  refine ⟨n0, by omega, fun h2 k2 => ?_⟩
  have a2 : h2 608 60 = N := by rw [k2, hup_ne (by decide), a1]
  rw [a2]
  refine ⟨n0, by omega, fun h3 k3 => ?_⟩
  have a3 : h3 608 60 = N := by rw [k3, hup_ne (by decide), a2]
  rw [a3]
  refine ⟨n0, by omega, fun h4 k4 => ?_⟩
  have a4 : h4 608 60 = N := by rw [k4, hup_ne (by decide), a3]
  rw [a4]
  refine ⟨n0, by omega, fun h5 k5 => ?_⟩
  have a5 : h5 608 60 = N := by rw [k5, hup_ne (by decide), a4]
  have a51 : h5 608 51 = G := by rw [k5, hup_ne (by decide), k4, hup_ne (by decide), k3, hup_ne (by decide), k2, hup_ne (by decide), k1, hup_ne (by decide), e51]
  rw [a5, a51]
  refine ⟨n0, by omega, fun h6 k6 => ?_⟩
  have r6 : ∀ a : Int, ¬ (645 ≤ a ∧ a ≤ 650) → h6 a = h a := fun a ha => by rw [k6, hup_r (by omega), k5, hup_r (by omega), k4, hup_r (by omega), k3, hup_r (by omega), k2, hup_r (by omega), k1, hup_r (by omega)]
  have j6 : ∀ a i : Int, i ≠ N → h6 a i = h a i := fun a i hi => by rw [k6, hup_nj hi, k5, hup_nj hi, k4, hup_nj hi, k3, hup_nj hi, k2, hup_nj hi, k1, hup_nj hi]
  have v5 : h6 645 N = kn := by rw [k6, hup_ne (by decide), k5, hup_ne (by decide), k4, hup_ne (by decide), k3, hup_ne (by decide), k2, hup_ne (by decide), k1, hup_at]
  have v6 : h6 646 N = 24 * pp + p := by rw [k6, hup_ne (by decide), k5, hup_ne (by decide), k4, hup_ne (by decide), k3, hup_ne (by decide), k2, hup_at]
  have v7 : h6 647 N = t := by rw [k6, hup_ne (by decide), k5, hup_ne (by decide), k4, hup_ne (by decide), k3, hup_at]
  have v8 : h6 648 N = at_ := by rw [k6, hup_ne (by decide), k5, hup_ne (by decide), k4, hup_at]
  have v9 : h6 649 N = nx := by rw [k6, hup_ne (by decide), k5, hup_at]
  have v0 : h6 650 N = G := by rw [k6, hup_at]
  have lp : ∀ (m : Nat) (y : Int) (h7 : Hp), 0 ≤ y → y + m = 10 → (∀ a : Int, a ≠ 651 → h7 a = h6 a) → (∀ i : Int, ¬ (10 * N ≤ i ∧ i < 10 * N + 10) → h7 651 i = h6 651 i) → (∀ k : Int, 0 ≤ k → k < y → h7 651 (10 * N + k) = fill k) → L0 g d m10_choose (retV Q) 68 [some (LR 10 608), none, none, none, none, none, some (LI y)] h7 := by
    intro m
    induction m with
    | zero =>
      intro y h7 y0 hy F7 O7 R7
      have e7 : h7 608 60 = N := by rw [F7 608 (by decide), r6 608 (by decide), e60]
      refine v10_choose_68 ⟨fun _ h8 k8 => ?_, fun z => absurd (by omega) z⟩
      rw [e7, w32_id (by omega) (by omega)] at k8
      have r8 : ∀ a : Int, a ≠ 608 → h8 a = h7 a := fun a ha => by rw [k8, hup_r ha]
      have low : ∀ a : Int, a ≠ 608 → ¬ (645 ≤ a ∧ a ≤ 651) → h8 a = h a := fun a c1 c2 => by rw [r8 a c1, F7 a (by omega), r6 a (by omega)]
      have f8 : ∀ j : Int, j ≠ 60 → h8 608 j = h 608 j := fun j hj => by rw [k8, hup_nj hj, F7 608 (by decide), r6 608 (by decide)]
      have w : ∀ a : Int, 645 ≤ a → a ≤ 650 → h8 a N = h6 a N := fun a c1 c2 => by rw [r8 a (by omega), F7 a (by omega)]
      refine q h8 ⟨⟨fun a c1 c2 => by rw [low a c1 (by omega)]; exact F.1 a c1 c2, fun j c1 c2 c3 => by rw [f8 j (by omega)]; exact F.2 j c1 c2 c3⟩, by rw [f8 51 (by decide)]; exact e51, g0, by rw [k8, hup_at]; simp; omega, ?_, fun i i0 i1 => ?_, An.to (fun j j0 j1 => f8 j (by omega)) (low 652 (by decide) (by decide)), os, fun e he => ?_⟩ (fun a c1 c2 => low a c1 c2) (f8 66 (by decide))
      · show h8 645 (cs.length : Nat) = kn ∧ _
        rw [hn]
        refine ⟨by rw [w 645 (by decide) (by decide)]; exact v5, by rw [w 646 (by decide) (by decide)]; exact v6, by rw [w 647 (by decide) (by decide)]; exact v7, by rw [w 648 (by decide) (by decide)]; exact v8, fun k b0 b1 => by rw [r8 651 (by decide)]; exact R7 k b0 (by omega), by rw [w 650 (by decide) (by decide), v0]; exact g0, by rw [w 650 (by decide) (by decide), v0]; exact Int.le_refl _, ?_, ?_⟩
        · rw [w 650 (by decide) (by decide), w 649 (by decide) (by decide), v0, v9]
          exact gr.to (Int.le_refl _) (fun i _ _ => ⟨by rw [low 641 (by decide) (by decide)], by rw [low 642 (by decide) (by decide)], by rw [low 643 (by decide) (by decide)]⟩)
        · rw [w 650 (by decide) (by decide), v0]
          refine C.to (Int.le_refl _) (fun i _ _ => ⟨by rw [low 641 (by decide) (by decide)], by rw [low 642 (by decide) (by decide)], by rw [low 643 (by decide) (by decide)]⟩) (fun a i b0 b1 i0 i1 => ?_) (fun i i0 i1 => ?_)
          · rw [r8 a (by omega), F7 a (by omega), j6 a i (by omega)]
          · rw [r8 651 (by decide), O7 i (by omega), r6 651 (by decide)]
      · by_cases ci : i = N
        · subst ci
          rw [w 650 (by decide) (by decide), v0]
          exact GM
        · rw [r8 650 (by decide), F7 650 (by decide), j6 650 i ci]
          refine bd i i0 ?_
          have : ((((kn, p, t, at_, r, fill) :: cs).length : Nat) : Int) = N + 1 := by simp; omega
          omega
      · rcases List.mem_cons.mp he with rfl | z
        · exact oc
        · exact ocs e z
    | succ m ih =>
      intro y h7 y0 hy F7 O7 R7
      have e7 : h7 608 60 = N := by rw [F7 608 (by decide), r6 608 (by decide), e60]
      have e44 : h7 644 y = fill y := by rw [F7 644 (by decide), r6 644 (by decide)]; exact hf y y0 (by omega)
      refine v10_choose_68 ⟨fun z => absurd z (by omega), fun _ => ?_⟩
      rw [e7, e44, w32_id (x := 10 * N) (by omega) (by omega), w32_id (x := 10 * N + y) (by omega) (by omega), w32_id (x := y + 1) (by omega) (by omega)]
      refine ⟨y0, by omega, by omega, by omega, fun h8 k8 => ih (y + 1) h8 (by omega) (by omega) (fun a ha => by rw [k8, hup_r ha]; exact F7 a ha) (fun i hi => by rw [k8, hup_nj (by omega)]; exact O7 i hi) (fun k b0 b1 => ?_)⟩
      by_cases ck : k = y
      · subst ck
        rw [k8, hup_at]
      · rw [k8, hup_nj (by omega)]
        exact R7 k b0 (by omega)
  exact lp 10 0 h6 (by decide) (by decide) (fun _ _ => rfl) (fun _ _ => rfl) (fun k b0 b1 => by omega)
end
