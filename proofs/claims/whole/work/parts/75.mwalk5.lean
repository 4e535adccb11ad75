/-! MATCHING, the model: one turn of the loop -/
def popB : List Cho → List Cho
  | [] => []
  | e :: cs => if e.1 = 2 then cs else popB cs
def hasB (cs : List Cho) : Prop := ∃ e ∈ cs, e.1 = 2
theorem mAn.t1 {s : St} {h : Hp} (A : mAn s h) {v : Int} : mAn (v, s.2) (hup h 608 61 v) := ⟨hup_at, by rw [hup_nj (by decide)]; exact A.2.1, by rw [hup_nj (by decide)]; exact A.2.2.1, by rw [hup_nj (by decide)]; exact A.2.2.2.1, fun i hi k k0 k1 => by rw [hup_ne (by decide)]; exact A.2.2.2.2 i hi k k0 k1⟩
/-- another field of 608 -/
theorem MBS.f {h0 h : Hp} {P T : NL} {pp G M : Int} {cs : List Cho} {s : St} (B : MBS h0 P T pp G M cs s h) {v : Int} : MBS h0 P T pp G M cs s (hup h 608 66 v) := by
  obtain ⟨F5, y51, y0, y60, y2, y3, y4, y5, y6⟩ := B
  exact ⟨F5.f (by omega), by rw [hup_nj (by decide)]; exact y51, y0, by rw [hup_nj (by decide)]; exact y60, y2.to (Int.le_refl _) (fun i _ _ => ⟨hup_ne (by decide), hup_ne (by decide), hup_ne (by decide)⟩) (fun a i x0 x1 _ _ => hup_ne (by omega)) (fun i _ _ => hup_ne (by decide)), fun i i0 i1 => by rw [hup_ne (by decide)]; exact y3 i i0 i1, y4.to (fun j j0 j1 => hup_nj (by omega)) (hup_r (by decide)), y5, y6⟩
/-- what the loop wants behind doGoal -/
def ItR (g : Gl) (D : Nat) (Q : Hp → Prop) (r5 : Int) (h3 : Hp) : Prop := (((h3 608 62) = 0 ∨ (h3 608 62) = 1) → ((¬ (h3 608 62) = 0 → L0 g D m10_fitAll (retV Q) 67 [some (LR 10 608), none, none, some (LI 0), none] h3) ∧ ((h3 608 62) = 0 → (((h3 608 63) = 0 ∨ (h3 608 63) = 1) → ((¬ (h3 608 63) = 0 → L0 g D m10_fitAll (retV Q) 67 [some (LR 10 608), none, none, some (LI 0), none] h3) ∧ ((h3 608 63) = 0 → ((¬ r5 = 0 → L0 g D m10_fitAll (retV Q) 67 [some (LR 10 608), none, none, some (LI 1), none] h3) ∧ (r5 = 0 → Good g D i10_goBack [LR 10 608] S0 h3 S0 (retI (fun r13 h11 => ((r13 = 0 → L0 g D m10_fitAll (retV Q) 67 [some (LR 10 608), none, none, some (LI 0), none] h11) ∧ (¬ r13 = 0 → L0 g D m10_fitAll (retV Q) 67 [some (LR 10 608), none, none, some (LI 1), none] h11))))))))))))
section
variable {g : Gl} {D : Nat} {h h0 : Hp} {E : Ev} {P T : NL} {pp G M : Int} {cs : List Cho} {s : St} {fill : Fl} {Q : Hp → Prop}
/-- the end of a turn that does not hold -/
theorem it_f (H : MHs E P T pp h0) (B : MBS h0 P T pp G (4 * s.1 - 3) cs s h) (lc : (cs.length : Int) ≤ s.1) (K : bk g (D + 3) Q h0 P T pp cs s) : (((h 608 62) = 0 ∨ (h 608 62) = 1) → ((¬ (h 608 62) = 0 → L0 g (D + 3) m10_fitAll (retV Q) 67 [some (LR 10 608), none, none, some (LI 0), none] h) ∧ ((h 608 62) = 0 → (((h 608 63) = 0 ∨ (h 608 63) = 1) → ((¬ (h 608 63) = 0 → L0 g (D + 3) m10_fitAll (retV Q) 67 [some (LR 10 608), none, none, some (LI 0), none] h) ∧ ((h 608 63) = 0 → Good g (D + 3) i10_goBack [LR 10 608] S0 h S0 (retI (fun r13 h11 => ((r13 = 0 → L0 g (D + 3) m10_fitAll (retV Q) 67 [some (LR 10 608), none, none, some (LI 0), none] h11) ∧ (¬ r13 = 0 → L0 g (D + 3) m10_fitAll (retV Q) 67 [some (LR 10 608), none, none, some (LI 1), none] h11)))))))))) := by
  obtain ⟨F, e51, g0, e60, C, bd, An, os, ocs⟩ := id B
  rw [An.2.1, An.2.2.1]
  have o1 := os.2.2.1
  have o2 := os.2.2.2.1
  refine fun _ => ⟨fun c => KL_0 ?_, fun c _ => ⟨fun c2 => KL_0 ?_, fun c2 => ?_⟩⟩
  · unfold bk at K
    rw [if_pos (Or.inl (by omega))] at K
    exact K h F An
  · unfold bk at K
    rw [if_pos (Or.inr (by omega))] at K
    exact K h F An
  · exact m_goBack H B lc (by omega) (by omega) K
/-- nothing is left -/
theorem go_nil (H : MHs E P T pp h0) (K : bk g (D + 3) Q h0 P T pp cs (kpW fill s)) : MGo g (D + 3) Q h0 P T pp [] fill cs s := by
  rintro h ⟨G, B, g1, lc, gr, hf, of, oL⟩
  have gr : h 608 66 = -1 := gr
  obtain ⟨F, e51, g0, e60, C, bd, An, os, ocs⟩ := id B
  have ek : (kpW fill s).1 = s.1 := by
    unfold kpW
    split
    · rfl
    · split <;> rfl
  refine v10_fitAll_67 ⟨fun z => absurd z (by decide), fun _ => ⟨fun z => absurd gr z, fun _ => m_keep An os hf (fun h1 A1 F1 G1 => ?_)⟩⟩
  have B1 : MBS h0 P T pp G (4 * (kpW fill s).1 - 3) cs (kpW fill s) h1 := ⟨⟨fun a x1 x2 => by rw [F1 a x1 (by omega)]; exact F.1 a x1 x2, fun j x1 x2 x3 => by rw [G1 j (by omega) (by omega)]; exact F.2 j x1 x2 x3⟩, by rw [G1 51 (by decide) (by decide)]; exact e51, g0, by rw [G1 60 (by decide) (by decide)]; exact e60, C.to (Int.le_refl _) (fun i _ _ => ⟨by rw [F1 641 (by decide) (by decide)], by rw [F1 642 (by decide) (by decide)], by rw [F1 643 (by decide) (by decide)]⟩) (fun a i x0 x1 _ _ => by rw [F1 a (by omega) (by omega)]) (fun i _ _ => by rw [F1 651 (by decide) (by decide)]), fun i i0 i1 => by rw [F1 650 (by decide) (by decide), ek]; exact bd i i0 i1, A1, okSt_kp os, ocs⟩
  exact it_f H B1 (by rw [ek]; exact lc) K
/-- the pops of the mark -/
theorem m_pop {D' : Nat} {R : Int → Hp → Prop} : ∀ (cs : List Cho) (h : Hp) (G : Int), hasB cs → (cs.length : Int) ≤ 2000 → MBS h0 P T pp G M cs s h → (∀ h' : Hp, MBS h0 P T pp G M (popB cs) s h' → R 0 h') → L0 g D' m10_doGoal (retI R) 36 [some (LR 10 608), none, none, none, none] h := by
  intro cs
  induction cs with
  | nil =>
    intro h G hb
    obtain ⟨e, he, _⟩ := hb
    cases he
  | cons e cs ih =>
    intro h G hb lc B k
    obtain ⟨F, e51, g0, e60, C, bd, An, os, ocs⟩ := B
    have len : ((((e :: cs).length : Nat)) : Int) = (cs.length : Nat) + 1 := by simp
    rw [len] at lc bd e60
    obtain ⟨c1, c2, c3, c4, c5, c6, c7, c8, c9⟩ := C
    have next : ∀ {h2 : Hp}, h2 = hup h 608 60 (cs.length : Nat) → MBS h0 P T pp G M cs s h2 := by
      intro h2 k2
      rw [k2]
      exact ⟨F.f (by omega), by rw [hup_nj (by decide)]; exact e51, g0, hup_at, c9.to c7 (fun i _ _ => ⟨hup_ne (by decide), hup_ne (by decide), hup_ne (by decide)⟩) (fun a i x0 x1 _ _ => hup_ne (by omega)) (fun i _ _ => hup_ne (by decide)), fun i i0 i1 => by rw [hup_ne (by decide)]; exact bd i i0 (by omega), An.to (fun j j0 j1 => hup_nj (by omega)) (hup_r (by decide)), os, fun e he => ocs e (List.mem_cons_of_mem _ he)⟩
    refine v10_doGoal_36 ?_
    rw [e60, show ((cs.length : Nat) : Int) + 1 - 1 = (cs.length : Nat) by omega, w32_id (x := ((cs.length : Nat) : Int)) (by omega) (by omega), c1]
    unfold popB at k
    refine ⟨by omega, by omega, fun c h2 k2 => ?_, fun c h3 k3 => ?_⟩
    · rw [if_pos c] at k
      exact k h2 (next k2)
    · rw [if_neg c] at k
      refine ih h3 G ?_ (by omega) (next k3) k
      obtain ⟨x, hx, ex⟩ := hb
      rcases List.mem_cons.mp hx with rfl | z
      · exact absurd ex c
      · exact ⟨x, z, ex⟩
theorem popB_len : ∀ cs : List Cho, (popB cs).length ≤ cs.length
  | [] => Nat.le_refl _
  | e :: cs => by
    unfold popB
    have := popB_len cs
    split <;> simp <;> omega
theorem go_mark (H : MHs E P T pp h0) {r : List (Int × Int)} {x : Int} (hb : hasB cs) (K : bk g (D + 3) Q h0 P T pp (popB cs) s) : MGo g (D + 3) Q h0 P T pp ((-2, x) :: r) fill cs s := by
  rintro h ⟨G, B, g1, lc, gr, hf, of, oL⟩
  obtain ⟨l0, l1, e1, e2, gr2⟩ := gr
  have tr1 := B.2.2.2.2.2.2.2.1.2.1
  refine v10_fitAll_67 ⟨fun z => absurd z (by decide), fun _ => ⟨fun _ => ?_, fun z => absurd z (by omega)⟩⟩
  show Good g (D + 3) i10_doGoal [LR 10 608] S0 h S0 (retI (ItR g (D + 3) Q))
  refine g10_doGoal (d := D + 2) (v10_doGoal ⟨l0, by omega, fun z => absurd (by rw [e1]; rfl) z, fun _ => ?_⟩)
  refine m_pop cs h G hb (by omega) B (fun h' B' => ?_)
  have pl := popB_len cs
  have X := it_f (h := h') H B' (by omega) K
  exact fun a => ⟨(X a).1, fun c b => ⟨((X a).2 c b).1, fun c2 => ⟨fun z => absurd rfl z, fun _ => ((X a).2 c b).2 c2⟩⟩⟩
/-- a pair: what doGoal comes to; v and the state behind it -/
theorem go_pair (H : MHs E P T pp h0) (n1 : s.2.1 = 0) (n2 : s.2.2.1 = 0) {p t : Int} {r : List (Int × Int)} (p0 : 0 ≤ p) (p1 : p < ln P) (t0 : 0 ≤ t) (t1 : t < ln T)
    (k0 : 2000 ≤ s.1 → Fin_ Q h0 (s.1, 1, s.2.2))
    (k1 : ¬ 2000 ≤ s.1 → ∀ (h3 : Hp) (G l : Int), MBS h0 P T pp G (4 * (s.1 + 1) - 3) cs (s.1 + 1, s.2) h3 → G ≤ 1 + 4 * s.1 → (cs.length : Int) ≤ s.1 → gl pp h3 G r l → h3 608 66 = h3 608 66 → (∀ k : Int, 0 ≤ k → k < 10 → h3 644 k = fill k) → okFl T fill → okG P T r → ∀ R : Int → Hp → Prop, (∀ h' : Hp, (∃ G' cs', MBS h0 P T pp G' (4 * (s.1 + 1) - 3) cs' (s.1 + 1, s.2) h' ∧ (cs'.length : Int) ≤ s.1 + 1 ∧ bk g (D + 3) Q h0 P T pp cs' (s.1 + 1, s.2)) → R 0 h') → (∀ h' : Hp, (∃ L' fl' cs', MWS h0 P T pp L' fl' cs' (s.1 + 1, s.2) h' ∧ MGo g (D + 3) Q h0 P T pp L' fl' cs' (s.1 + 1, s.2)) → R 1 h') →
      ((((h3 628 (24 * pp + p)) < 0 ∨ 3 < (h3 628 (24 * pp + p))) → Good g (D + 2) i10_choose [LR 10 608, LI 2, LI (w32 ((24 * pp + p) + 1)), LI t, LI t, LI l] S0 h3 S0 (retV (fun h5 => Good g (D + 2) i10_goal [LR 10 608, LI (-2), LI 0, LI (-1)] S0 h5 S0 (retI (fun r9 h7 => Good g (D + 2) i10_goal [LR 10 608, LI (w32 ((24 * pp + p) + 1)), LI t, LI r9] S0 h7 S0 (retI (fun r12 h10 => ∀ h13 : Hp, h13 = hup h10 608 66 r12 → R 1 h13))))))) ∧
       ((h3 628 (24 * pp + p)) = 0 → 0 ≤ t ∧ t < 240 ∧ (((h3 637 t) = (h3 629 (24 * pp + p)) → 0 ≤ ((h3 629 (24 * pp + p))) ∧ ((h3 629 (24 * pp + p))) < 20 ∧ (((h3 612 (h3 629 (24 * pp + p))) = 0 ∨ (h3 612 (h3 629 (24 * pp + p))) = 1) → (((h3 612 (h3 629 (24 * pp + p))) = 0 → L0 g (D + 2) m10_doGoal (retI R) 199 [some (LR 10 608), some (LI (24 * pp + p)), some (LI t), some (LI l), none] h3) ∧ (¬ (h3 612 (h3 629 (24 * pp + p))) = 0 → (((h3 611 (h3 629 (24 * pp + p))) ≤ 1 → L0 g (D + 2) m10_doGoal (retI R) 199 [some (LR 10 608), some (LI (24 * pp + p)), some (LI t), some (LI l), none] h3) ∧ (¬ (h3 611 (h3 629 (24 * pp + p))) ≤ 1 → Good g (D + 2) i10_choose [LR 10 608, LI 0, LI (24 * pp + p), LI t, LI 1, LI l] S0 h3 S0 (retV (fun h19 => L0 g (D + 2) m10_doGoal (retI R) 199 [some (LR 10 608), some (LI (24 * pp + p)), some (LI t), some (LI l), none] h19)))))))) ∧ (¬ (h3 637 t) = (h3 629 (24 * pp + p)) → R 0 h3))) ∧
       ((h3 628 (24 * pp + p)) = 1 → ∀ h22 : Hp, h22 = hup h3 608 66 l → 0 ≤ t ∧ t < 240 ∧ ((0 ≤ (h22 637 t) → R 0 h22) ∧ (¬ 0 ≤ (h22 637 t) → ((¬ (lcmpI (h22 638 t) (h22 630 (24 * pp + p))) = 0 → R 0 h22) ∧ ((lcmpI (h22 638 t) (h22 630 (24 * pp + p))) = 0 → R 1 h22))))) ∧
       ((h3 628 (24 * pp + p)) = 2 → ∀ h26 : Hp, h26 = hup h3 608 66 l → Good g (D + 2) i10_holds [LR 10 608, LI (24 * pp + p), LI t] S0 h26 S0 (retI (fun r29 h27 => (r29 = 0 ∨ r29 = 1) ∧ R r29 h27))) ∧
       ((h3 628 (24 * pp + p)) = 3 → 0 ≤ t ∧ t < 240 ∧ (((h3 639 t) ≤ (w32 (t + 1)) → L0 g (D + 2) m10_doGoal (retI R) 286 [some (LR 10 608), some (LI (24 * pp + p)), some (LI t), some (LI l), none] h3) ∧ (¬ (h3 639 t) ≤ (w32 (t + 1)) → Good g (D + 2) i10_choose [LR 10 608, LI 1, LI (w32 ((24 * pp + p) + 1)), LI t, LI (w32 (t + 1)), LI l] S0 h3 S0 (retV (fun h32 => L0 g (D + 2) m10_doGoal (retI R) 286 [some (LR 10 608), some (LI (24 * pp + p)), some (LI t), some (LI l), none] h32))))))) : MGo g (D + 3) Q h0 P T pp ((p, t) :: r) fill cs s := by
  rintro h ⟨G, B, g1, lc, gr, hf, of, oL⟩
  obtain ⟨l0, l1, e1, e2, gr2⟩ := gr
  obtain ⟨F, e51, g0, e60, C, bd, An, os, ocs⟩ := id B
  have tr0 := os.1
  have tr1 := os.2.1
  have ee : enc pp p = 24 * pp + p := by unfold enc; rw [if_neg (by omega)]
  simp only at e1 e2
  rw [ee] at e1
  have a6 := H.2.2.2.2.2.1
  have a10 := H.2.2.2.2.2.2.2.2.2
  refine v10_fitAll_67 ⟨fun z => absurd z (by decide), fun _ => ⟨fun _ => ?_, fun z => absurd z (by omega)⟩⟩
  show Good g (D + 3) i10_doGoal [LR 10 608] S0 h S0 (retI (ItR g (D + 3) Q))
  refine g10_doGoal (d := D + 2) (v10_doGoal ⟨l0, by omega, fun _ => ?_, fun z => absurd z (by rw [e1]; omega)⟩)
  rw [An.1, e1, e2]
  refine ⟨fun c h3 k3 => ?_, fun c h34 k34 => ?_⟩
  · rw [w32_id (by omega) (by omega)] at k3
    have B3 : MBS h0 P T pp G (4 * (s.1 + 1) - 3) cs (s.1 + 1, s.2) h3 := by
      rw [k3]
      exact ⟨F.f (by omega), by rw [hup_nj (by decide)]; exact e51, g0, by rw [hup_nj (by decide)]; exact e60, C.to (Int.le_refl _) (fun i _ _ => ⟨hup_ne (by decide), hup_ne (by decide), hup_ne (by decide)⟩) (fun a i x0 x1 _ _ => hup_ne (by omega)) (fun i _ _ => hup_ne (by decide)), fun i i0 i1 => by rw [hup_ne (by decide)]; have := bd i i0 i1; omega, An.t1, ⟨by simp; omega, by simp; omega, os.2.2.1, os.2.2.2.1, os.2.2.2.2⟩, ocs⟩
    have e43 : gl pp h3 G r (h 643 (h 608 66)) := gr2.to (Int.le_refl _) (fun i _ _ => ⟨by rw [k3, hup_ne (by decide)], by rw [k3, hup_ne (by decide)], by rw [k3, hup_ne (by decide)]⟩)
    refine ⟨by omega, by omega, k1 (by omega) h3 G _ B3 g1 lc e43 rfl (fun k b0 b1 => by rw [k3, hup_ne (by decide)]; exact hf k b0 b1) of (fun e he => oL e (List.mem_cons_of_mem _ he)) (ItR g (D + 3) Q) (fun h' X => ?_) (fun h' X => ?_)⟩
    · obtain ⟨G', cs', B', lc', K'⟩ := X
      have X := it_f (h := h') H B' (by simpa using lc') K'
      exact fun a => ⟨(X a).1, fun c b => ⟨((X a).2 c b).1, fun c2 => ⟨fun z => absurd rfl z, fun _ => ((X a).2 c b).2 c2⟩⟩⟩
    · obtain ⟨L', fl', cs', W', K'⟩ := X
      have A' := W'.choose_spec.1.2.2.2.2.2.2.1
      unfold ItR
      rw [A'.2.1, A'.2.2.1]
      show ((s.2.1 = 0 ∨ s.2.1 = 1) → _)
      rw [n1, n2]
      exact fun _ => ⟨fun z => absurd rfl z, fun _ _ => ⟨fun z => absurd rfl z, fun _ => ⟨fun _ => K' h' W', fun z => absurd z (by decide)⟩⟩⟩
  · have A34 : mAn (s.1, 1, s.2.2) h34 := by
      rw [k34]
      exact ⟨by rw [hup_nj (by decide)]; exact An.1, hup_at, by rw [hup_nj (by decide)]; exact An.2.2.1, by rw [hup_nj (by decide)]; exact An.2.2.2.1, fun i hi k x0 x1 => by rw [hup_ne (by decide)]; exact An.2.2.2.2 i hi k x0 x1⟩
    have F34 : mFrm h0 h34 := by
      rw [k34]
      exact F.f (by omega)
    have e62 : h34 608 62 = 1 := A34.2.1
    unfold ItR
    rw [e62]
    exact fun _ => ⟨fun _ => KL_0 (k0 (by omega) h34 F34 A34), fun z => absurd z (by decide)⟩
end
