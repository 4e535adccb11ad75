/-! THE WHOLE: what class and model hold, call by call. E kinds and heads, T the tree, P the patterns, A asked, B n the tape, O m what is printed, pl the place -/
def cG (E : Ev) (T : NL) (P : Ps) (A : Int) (B : Int → Int) (n : Int) (O : Int → Int) (m pl : Int) (h : Hp) : Prop := cA E T P h ∧ cK E T P A h ∧ cF E T P h ∧ cX 10 1000 B n h ∧ cX 12 3000 O m h ∧ h 597 8 = pl
def mG (E : Ev) (T : NL) (P : Ps) (A : Int) (B : Int → Int) (n : Int) (O : Int → Int) (m pl : Int) (h : Hp) : Prop := mA E T P h ∧ mK E T P A h ∧ h 608 41 = prs P ∧ mX B n h ∧ mO O m h ∧ h 608 23 = pl
def GX (h : Hp) : Prop := ∃ (E : Ev) (T : NL) (P : Ps) (A : Int) (B : Int → Int) (n : Int) (O : Int → Int) (m pl : Int), cG E T P A B n O m pl h ∧ mG E T P A B n O m pl h
section
variable {g : Gl} {h h' : Hp} {E E' : Ev} {T T' : NL} {P P' : Ps} {A : Int} {B B' : Int → Int} {n n' : Int} {O O' : Int → Int} {m m' pl pl' : Int} {Z : Int → Int → Hp → Prop}
theorem GX.i (H : cG E T P A B n O m pl h) (M : mG E T P A B n O m pl h) : GX h := ⟨E, T, P, A, B, n, O, m, pl, H, M⟩
theorem tabs.to (H : tabs h) (e2 : h' 2 = h 2) (e3 : h' 3 = h 3) : tabs h' := by
  unfold tabs at *
  rw [e2, e3]
  exact H
theorem cK.to (K : cK E T P A h) (e4 : h' 4 12 = h 4 12) (e5 : h' 4 13 = h 4 13) (e6 : h' 607 = h 607) (ep : ∀ p : Int, 0 ≤ p → p < 40 → h' (35 + 14 * p + 12) = h (35 + 14 * p + 12) ∧ h' (35 + 14 * p + 12 + 1) = h (35 + 14 * p + 12 + 1)) : cK E T P A h' := by
  obtain ⟨k1, k2, k3⟩ := K
  refine ⟨k1, by rw [e5]; exact k2, fun a => ?_⟩
  obtain ⟨w, y, c, c1, c2⟩ := k3 a
  exact ⟨w, fun p p0 p1 pp => (y p p0 p1 pp).to (ep p p0 (by omega)).1 (ep p p0 (by omega)).2, c, by rw [e4]; exact c1, by rw [e6]; exact c2⟩
theorem cF.to (K : cF E T P h) (e3 : h' 603 = h 603) (e4 : h' 604 = h 604) : cF E T P h' := by
  unfold cF cFd at *
  rw [e3, e4]
  exact K
theorem mAs.to {p : Int} {s : St} (H : mAs p s h) (e : ∀ a : Int, 654 ≤ a → a ≤ 658 → h' a = h a) : mAs p s h' := by
  unfold mAs at *
  rw [e 654 (by decide) (by decide), e 655 (by decide) (by decide), e 656 (by decide) (by decide), e 657 (by decide) (by decide), e 658 (by decide) (by decide)]
  exact H
theorem mK.to (K : mK E T P A h) (e7 : h' 608 47 = h 608 47) (e : ∀ a : Int, 654 ≤ a → a ≤ 658 → h' a = h a) : mK E T P A h' := ⟨K.1, by rw [e7]; exact K.2.1, fun a p p0 p1 pp => (K.2.2 a p p0 p1 pp).to e⟩
theorem ext.ft (ok : okE E) (x : ext E E') (oT : okL E T) {L : NL} : ftT E' L T = ftT E L T := by
  funext y
  unfold ftT
  rw [ext.r ok x oT]
theorem ext.fx (ok : okE E) (x : ext E E') (oT : okL E T) : fX E' T P = fX E T P := by
  funext p
  unfold fX
  rw [ext.ft ok x oT]
theorem cK.ext (K : cK E T P A h) (ok : okE E) (x : ext E E') (oT : okL E T) : cK E' T P A h := by
  obtain ⟨k1, k2, k3⟩ := K
  refine ⟨k1, k2, fun a => ?_⟩
  obtain ⟨w, y, c, c1, c2⟩ := k3 a
  exact ⟨w, fun p p0 p1 pp => by rw [ext.r ok x oT]; exact y p p0 p1 pp, c, c1, by rw [ext.fx ok x oT]; exact c2⟩
theorem cF.ext (K : cF E T P h) (ok : okE E) (x : ext E E') (oT : okL E T) : cF E' T P h := by
  rcases K with z | ⟨p, p0, p1, pp, e, z⟩
  · exact Or.inl z
  · exact Or.inr ⟨p, p0, p1, pp, e, by rw [ext.ft ok x oT]; exact z⟩
theorem mK.ext (K : mK E T P A h) (ok : okE E) (x : ext E E') (oT : okL E T) : mK E' T P A h := ⟨K.1, K.2.1, fun a p p0 p1 pp => by rw [ext.r ok x oT]; exact K.2.2 a p p0 p1 pp⟩
theorem cX_0 {t c : Int} (c0 : 0 ≤ c) (e : h t 1 = 0) : cX t c B 0 h := ⟨e, by decide, c0, fun i i0 i1 => by omega⟩
theorem mX_0 (e : h 608 7 = 0) : mX B 0 h := ⟨e, by decide, by decide, fun i i0 i1 => by omega⟩
theorem cK_0 (e : h 4 13 = 0) : cK E T P 0 h := ⟨Or.inl rfl, e, fun z => absurd z (by decide)⟩
theorem mK_0 (e : h 608 47 = 0) : mK E T P 0 h := ⟨Or.inl rfl, e, fun z => absurd z (by decide)⟩
theorem cG.to (H : cG E T P A B n O m pl h) (F : ∀ a : Int, a < 608 → h' a = h a) : cG E T P A B n O m pl h' := by
  obtain ⟨a1, a2, a3, a4, a5, a6⟩ := H
  exact ⟨a1.to (fun a z => F a (by omega)) (fun p a p0 p1 z0 z1 => F a (by omega)), a2.to (by rw [F 4 (by decide)]) (by rw [F 4 (by decide)]) (F 607 (by decide)) (fun p p0 p1 => ⟨F _ (by omega), F _ (by omega)⟩), a3.to (F 603 (by decide)) (F 604 (by decide)), a4.to (by rw [F 10 (by decide)]) (F (10 + 1) (by decide)), a5.to (by rw [F 12 (by decide)]) (F (12 + 1) (by decide)), by rw [F 597 (by decide)]; exact a6⟩
theorem mG.to (M : mG E T P A B n O m pl h) (F : ∀ a : Int, 608 ≤ a → h' a = h a) : mG E T P A B n O m pl h' := by
  obtain ⟨a1, a2, a3, a4, a5, a6⟩ := M
  exact ⟨a1.to (fun a z0 z1 => F a (by omega)) (by rw [F 608 (by decide)]) (by rw [F 608 (by decide)]) (by rw [F 608 (by decide)]), a2.to (by rw [F 608 (by decide)]) (fun a z0 z1 => F a (by omega)), by rw [F 608 (by decide)]; exact a3, a4.to (by rw [F 608 (by decide)]) (F 613 (by decide)), a5.to (by rw [F 608 (by decide)]) (F 660 (by decide)), by rw [F 608 (by decide)]; exact a6⟩
/-- more kinds or heads -/
theorem cG.e (H : cG E T P A B n O m pl h) (ok' : okE E') (x : ext E E') (ce : cE E' h') (F : ∀ a : Int, ¬ (5 ≤ a ∧ a ≤ 9) → h' a = h a) : cG E' T P A B n O m pl h' := by
  obtain ⟨⟨b1, b2, b3, b4, b5, b6, b7⟩, a2, a3, a4, a5, a6⟩ := H
  exact ⟨⟨ok', ce, x.t b3, b4.to (fun a z0 z1 => F a (by omega)), x.p b5, b6.to (fun p a p0 p1 z0 z1 => F a (by omega)), b7.to (F 2 (by decide)) (F 3 (by decide))⟩, (a2.ext b1 x b3.1).to (by rw [F 4 (by decide)]) (by rw [F 4 (by decide)]) (F 607 (by decide)) (fun p p0 p1 => ⟨F _ (by omega), F _ (by omega)⟩), (a3.ext b1 x b3.1).to (F 603 (by decide)) (F 604 (by decide)), a4.to (by rw [F 10 (by decide)]) (F (10 + 1) (by decide)), a5.to (by rw [F 12 (by decide)]) (F (12 + 1) (by decide)), by rw [F 597 (by decide)]; exact a6⟩
theorem mG.e (M : mG E T P A B n O m pl h) (ok' : okE E') (x : ext E E') (me : mE E' h') (F : ∀ a : Int, a ≠ 608 → ¬ (609 ≤ a ∧ a ≤ 612) → h' a = h a) (G : ∀ j : Int, j ≠ 0 → j ≠ 2 → h' 608 j = h 608 j) : mG E' T P A B n O m pl h' := by
  obtain ⟨⟨b1, b2, b3, b4, b5, b6⟩, a2, a3, a4, a5, a6⟩ := M
  exact ⟨⟨ok', me, x.t b3, b4.to (G 42 (by decide) (by decide)) (fun a z0 z1 => F a (by omega) (by omega)), x.p b5, b6.to (fun a z0 z1 => F a (by omega) (by omega))⟩, (a2.ext b1 x b3.1).to (G 47 (by decide) (by decide)) (fun a z0 z1 => F a (by omega) (by omega)), by rw [G 41 (by decide) (by decide)]; exact a3, a4.to (G 7 (by decide) (by decide)) (F 613 (by decide) (by decide)), a5.to (G 76 (by decide) (by decide)) (F 660 (by decide) (by decide)), by rw [G 23 (by decide) (by decide)]; exact a6⟩
/-- the tape -/
theorem cG.t (H : cG E T P A B n O m pl h) (cx : cX 10 1000 B' n' h') (F : ∀ a : Int, a ≠ 10 → a ≠ 11 → h' a = h a) : cG E T P A B' n' O m pl h' := by
  obtain ⟨a1, a2, a3, a4, a5, a6⟩ := H
  exact ⟨a1.to (fun a z => F a (by omega) (by omega)) (fun p a p0 p1 z0 z1 => F a (by omega) (by omega)), a2.to (by rw [F 4 (by decide) (by decide)]) (by rw [F 4 (by decide) (by decide)]) (F 607 (by decide) (by decide)) (fun p p0 p1 => ⟨F _ (by omega) (by omega), F _ (by omega) (by omega)⟩), a3.to (F 603 (by decide) (by decide)) (F 604 (by decide) (by decide)), cx, a5.to (by rw [F 12 (by decide) (by decide)]) (F (12 + 1) (by decide) (by decide)), by rw [F 597 (by decide) (by decide)]; exact a6⟩
theorem mG.t (M : mG E T P A B n O m pl h) (mx : mX B' n' h') (F : ∀ a : Int, a ≠ 608 → a ≠ 613 → h' a = h a) (G : ∀ j : Int, j ≠ 7 → h' 608 j = h 608 j) : mG E T P A B' n' O m pl h' := by
  obtain ⟨a1, a2, a3, a4, a5, a6⟩ := M
  have ⟨b1, b2, b3, b4, b5, b6⟩ := a1
  exact ⟨⟨b1, b2.to (G 0 (by decide)) (G 2 (by decide)) (F 609 (by decide) (by decide)) (F 610 (by decide) (by decide)) (F 611 (by decide) (by decide)) (F 612 (by decide) (by decide)), b3, b4.to (G 42 (by decide)) (fun a z0 z1 => F a (by omega) (by omega)), b5, b6.to (fun a z0 z1 => F a (by omega) (by omega))⟩, a2.to (G 47 (by decide)) (fun a z0 z1 => F a (by omega) (by omega)), by rw [G 41 (by decide)]; exact a3, mx, a5.to (G 76 (by decide)) (F 660 (by decide) (by decide)), by rw [G 23 (by decide)]; exact a6⟩
/-- what is printed -/
theorem cG.o (H : cG E T P A B n O m pl h) (co : cX 12 3000 O' m' h') (F : ∀ a : Int, a ≠ 12 → a ≠ 13 → h' a = h a) : cG E T P A B n O' m' pl h' := by
  obtain ⟨a1, a2, a3, a4, a5, a6⟩ := H
  exact ⟨a1.to (fun a z => F a (by omega) (by omega)) (fun p a p0 p1 z0 z1 => F a (by omega) (by omega)), a2.to (by rw [F 4 (by decide) (by decide)]) (by rw [F 4 (by decide) (by decide)]) (F 607 (by decide) (by decide)) (fun p p0 p1 => ⟨F _ (by omega) (by omega), F _ (by omega) (by omega)⟩), a3.to (F 603 (by decide) (by decide)) (F 604 (by decide) (by decide)), a4.to (by rw [F 10 (by decide) (by decide)]) (F (10 + 1) (by decide) (by decide)), co, by rw [F 597 (by decide) (by decide)]; exact a6⟩
theorem mG.o (M : mG E T P A B n O m pl h) (mo : mO O' m' h') (F : mFrO h h') : mG E T P A B n O' m' pl h' := by
  obtain ⟨a1, a2, a3, a4, a5, a6⟩ := M
  obtain ⟨F, G⟩ := F
  exact ⟨a1.to (fun a z0 z1 => F a (by omega) (by omega) (by omega) (by omega)) (G 0 (by decide) (by decide)) (G 2 (by decide) (by decide)) (G 42 (by decide) (by decide)), a2.to (G 47 (by decide) (by decide)) (fun a z0 z1 => F a (by omega) (by omega) (by omega) (by omega)), by rw [G 41 (by decide) (by decide)]; exact a3, a4.to (G 7 (by decide) (by decide)) (F 613 (by decide) (by decide) (by decide) (by decide)), mo, by rw [G 23 (by decide) (by decide)]; exact a6⟩
/-- the tree -/
theorem cG.r (H : cG E T P A B n O m pl h) (F : cFrT h h') (t0 : h' 10 1 = 0) (p8 : h' 597 8 = pl') (ct : cTr T' h') (ot : okT E T') : cG E T' P 0 B 0 O m pl' h' := by
  obtain ⟨⟨b1, b2, b3, b4, b5, b6, b7⟩, a2, a3, a4, a5, a6⟩ := H
  obtain ⟨F, F4, F5, F6, F7⟩ := F
  have G : ∀ a : Int, a ≠ 597 → a ≠ 10 → ¬ (14 ≤ a ∧ a ≤ 31) → a ≠ 4 → a ≠ 603 → h' a = h a := F
  exact ⟨⟨b1, b2.to (G 5 (by decide) (by decide) (by decide) (by decide) (by decide)) (G 6 (by decide) (by decide) (by decide) (by decide) (by decide)) (G 7 (by decide) (by decide) (by decide) (by decide) (by decide)) (G 8 (by decide) (by decide) (by decide) (by decide) (by decide)) (G 9 (by decide) (by decide) (by decide) (by decide) (by decide)), ot, ct, b5, b6.to (fun p a p0 p1 z0 z1 => G a (by omega) (by omega) (by omega) (by omega) (by omega)), b7.to (G 2 (by decide) (by decide) (by decide) (by decide) (by decide)) (G 3 (by decide) (by decide) (by decide) (by decide) (by decide))⟩, cK_0 F5, Or.inl F7, cX_0 (by decide) t0, a5.to (by rw [G 12 (by decide) (by decide) (by decide) (by decide) (by decide)]) (G (12 + 1) (by decide) (by decide) (by decide) (by decide) (by decide)), p8⟩
theorem mG.r (M : mG E T P A B n O m pl h) (F : mFrT h h') (t0 : h' 608 7 = 0) (p8 : h' 608 23 = pl') (mt : mTr T' h') (ot : okT E T') : mG E T' P 0 B 0 O m pl' h' := by
  obtain ⟨⟨b1, b2, b3, b4, b5, b6⟩, a2, a3, a4, a5, a6⟩ := M
  obtain ⟨F, G, F7⟩ := F
  exact ⟨⟨b1, b2.to (G 0 (by decide) (by decide) (by decide) (by decide)) (G 2 (by decide) (by decide) (by decide) (by decide)) (F 609 (by decide) (by decide) (by decide)) (F 610 (by decide) (by decide) (by decide)) (F 611 (by decide) (by decide) (by decide)) (F 612 (by decide) (by decide) (by decide)), ot, mt, b5, b6.to (fun a z0 z1 => F a (by omega) (by omega) (by omega))⟩, mK_0 F7, by rw [G 41 (by decide) (by decide) (by decide) (by decide)]; exact a3, mX_0 t0, a5.to (G 76 (by decide) (by decide) (by decide) (by decide)) (F 660 (by decide) (by decide) (by decide)), p8⟩
/-- reading came to a fault -/
theorem cG.f (H : cG E T P A B n O m pl h) (F : cFrF h h') (t0 : h' 10 1 = 0) (p8 : h' 597 8 = pl') : cG E T P A B 0 O m pl' h' := by
  obtain ⟨a1, a2, a3, a4, a5, a6⟩ := H
  exact ⟨a1.to (fun a z => F a (by omega) (by omega) (by omega)) (fun p a p0 p1 z0 z1 => F a (by omega) (by omega) (by omega)), a2.to (by rw [F 4 (by decide) (by decide) (by decide)]) (by rw [F 4 (by decide) (by decide) (by decide)]) (F 607 (by decide) (by decide) (by decide)) (fun p p0 p1 => ⟨F _ (by omega) (by omega) (by omega), F _ (by omega) (by omega) (by omega)⟩), a3.to (F 603 (by decide) (by decide) (by decide)) (F 604 (by decide) (by decide) (by decide)), cX_0 (by decide) t0, a5.to (by rw [F 12 (by decide) (by decide) (by decide)]) (F (12 + 1) (by decide) (by decide) (by decide)), p8⟩
theorem mG.f (M : mG E T P A B n O m pl h) (F : mFr h h') (t0 : h' 608 7 = 0) (p8 : h' 608 23 = pl') : mG E T P A B 0 O m pl' h' := by
  obtain ⟨⟨b1, b2, b3, b4, b5, b6⟩, a2, a3, a4, a5, a6⟩ := M
  obtain ⟨F, G⟩ := F
  exact ⟨⟨b1, b2.to (G 0 (by decide) (by decide)) (G 2 (by decide) (by decide)) (F 609 (by decide) (by decide)) (F 610 (by decide) (by decide)) (F 611 (by decide) (by decide)) (F 612 (by decide) (by decide)), b3, b4.to (G 42 (by decide) (by decide)) (fun a z0 z1 => F a (by omega) (by omega)), b5, b6.to (fun a z0 z1 => F a (by omega) (by omega))⟩, a2.to (G 47 (by decide) (by decide)) (fun a z0 z1 => F a (by omega) (by omega)), by rw [G 41 (by decide) (by decide)]; exact a3, mX_0 t0, a5.to (G 76 (by decide) (by decide)) (F 660 (by decide) (by decide)), p8⟩
/-- a pattern put in -/
theorem cG.p (H : cG E T P A B n O m pl h) {p : Int} (p0 : 0 ≤ p) (F : cFrP h h' p) (t0 : h' 10 1 = 0) (p8 : h' 597 8 = pl') (cp : cPS P' h') (op : okP E P') : cG E T P' 0 B 0 O m pl' h' := by
  obtain ⟨⟨b1, b2, b3, b4, b5, b6, b7⟩, a2, a3, a4, a5, a6⟩ := H
  obtain ⟨G, F4, F5, F6, F7⟩ := F
  have K : ∀ a : Int, a < 24 → a ≠ 10 → a ≠ 4 → h' a = h a := fun a z1 z2 z3 => G a (by omega) z2 (by omega) (by omega) z3 (by omega)
  exact ⟨⟨b1, b2.to (K 5 (by decide) (by decide) (by decide)) (K 6 (by decide) (by decide) (by decide)) (K 7 (by decide) (by decide) (by decide)) (K 8 (by decide) (by decide) (by decide)) (K 9 (by decide) (by decide) (by decide)), b3, b4.to (fun a z0 z1 => K a (by omega) (by omega) (by omega)), op, cp, b7.to (K 2 (by decide) (by decide) (by decide)) (K 3 (by decide) (by decide) (by decide))⟩, cK_0 F5, Or.inl F7, cX_0 (by decide) t0, a5.to (by rw [K 12 (by decide) (by decide) (by decide)]) (K (12 + 1) (by decide) (by decide) (by decide)), p8⟩
theorem mG.p (M : mG E T P A B n O m pl h) (F : mFrP h h') (t0 : h' 608 7 = 0) (p8 : h' 608 23 = pl') (mp : mPS P' h') (op : okP E P') (ep : h' 608 41 = prs P') : mG E T P' 0 B 0 O m pl' h' := by
  obtain ⟨⟨b1, b2, b3, b4, b5, b6⟩, a2, a3, a4, a5, a6⟩ := M
  obtain ⟨F, G, F7⟩ := F
  exact ⟨⟨b1, b2.to (G 0 (by decide) (by decide) (by decide) (by decide)) (G 2 (by decide) (by decide) (by decide) (by decide)) (F 609 (by decide) (by decide)) (F 610 (by decide) (by decide)) (F 611 (by decide) (by decide)) (F 612 (by decide) (by decide)), b3, b4.to (G 42 (by decide) (by decide) (by decide) (by decide)) (fun a z0 z1 => F a (by omega) (by omega)), op, mp⟩, mK_0 F7, ep, mX_0 t0, a5.to (G 76 (by decide) (by decide) (by decide) (by decide)) (F 660 (by decide) (by decide)), p8⟩
/-- a pattern taken out -/
theorem cG.d (H : cG E T P A B n O m pl h) {p : Int} (p0 : 0 ≤ p) (p1 : p < 40) (F : cFrD h h' p) (cp : cPS P' h') (op : okP E P') : cG E T P' 0 B n O m pl h' := by
  obtain ⟨⟨b1, b2, b3, b4, b5, b6, b7⟩, a2, a3, a4, a5, a6⟩ := H
  obtain ⟨G, F3, F4, F5, F6, F7⟩ := F
  have K : ∀ a : Int, (a < 35 ∨ a = 597) → a ≠ 4 → h' a = h a := fun a z1 z2 => G a (by omega) z2 (by omega)
  exact ⟨⟨b1, b2.to (K 5 (by decide) (by decide)) (K 6 (by decide) (by decide)) (K 7 (by decide) (by decide)) (K 8 (by decide) (by decide)) (K 9 (by decide) (by decide)), b3, b4.to (fun a z0 z1 => K a (by omega) (by omega)), op, cp, b7.to (K 2 (by decide) (by decide)) (K 3 (by decide) (by decide))⟩, cK_0 F5, Or.inl F7, a4.to (by rw [K 10 (by decide) (by decide)]) (K (10 + 1) (by decide) (by decide)), a5.to (by rw [K 12 (by decide) (by decide)]) (K (12 + 1) (by decide) (by decide)), by rw [K 597 (by decide) (by decide)]; exact a6⟩
theorem mG.d (M : mG E T P A B n O m pl h) {p : Int} (F : mFrD h h' p) (mp : mPS P' h') (op : okP E P') (ep : h' 608 41 = prs P') : mG E T P' 0 B n O m pl h' := by
  obtain ⟨⟨b1, b2, b3, b4, b5, b6⟩, a2, a3, a4, a5, a6⟩ := M
  obtain ⟨F, F5, G, F7⟩ := F
  exact ⟨⟨b1, b2.to (G 0 (by decide) (by decide)) (G 2 (by decide) (by decide)) (F 609 (by decide) (by decide)) (F 610 (by decide) (by decide)) (F 611 (by decide) (by decide)) (F 612 (by decide) (by decide)), b3, b4.to (G 42 (by decide) (by decide)) (fun a z0 z1 => F a (by omega) (by omega)), op, mp⟩, mK_0 F7, ep, a4.to (G 7 (by decide) (by decide)) (F 613 (by decide) (by decide)), a5.to (G 76 (by decide) (by decide)) (F 660 (by decide) (by decide)), by rw [G 23 (by decide) (by decide)]; exact a6⟩
/-- asked -/
theorem cG.a (H : cG E T P A B n O m pl h) (F : cFrA h h') (K : cK E T P 1 h') : cG E T P 1 B n O m pl h' := by
  obtain ⟨a1, a2, a3, a4, a5, a6⟩ := H
  have G : ∀ a : Int, ¬ (598 ≤ a ∧ a ≤ 602) → a ≠ 4 → a ≠ 607 → (a < 35 ∨ 594 < a) → h' a = h a := fun a z1 z2 z3 z4 => F.1 a z1 z2 z3 (fun p p0 p1 => by omega)
  exact ⟨a1.fa F, K, a3.to (G 603 (by decide) (by decide) (by decide) (by decide)) (G 604 (by decide) (by decide) (by decide) (by decide)), a4.to (by rw [G 10 (by decide) (by decide) (by decide) (by decide)]) (G (10 + 1) (by decide) (by decide) (by decide) (by decide)), a5.to (by rw [G 12 (by decide) (by decide) (by decide) (by decide)]) (G (12 + 1) (by decide) (by decide) (by decide) (by decide)), by rw [G 597 (by decide) (by decide) (by decide) (by decide)]; exact a6⟩
theorem mG.a (M : mG E T P A B n O m pl h) (F : mFrA h h') (K : mK E T P 1 h') : mG E T P 1 B n O m pl h' := by
  obtain ⟨a1, a2, a3, a4, a5, a6⟩ := M
  have G := F.2
  exact ⟨a1.fa F, K, by rw [G 41 (by decide) (by decide) (by decide) (by decide)]; exact a3, a4.to (G 7 (by decide) (by decide) (by decide) (by decide)) (F.1 613 (by decide) (by decide)), a5.to (G 76 (by decide) (by decide) (by decide) (by decide)) (F.1 660 (by decide) (by decide)), by rw [G 23 (by decide) (by decide) (by decide) (by decide)]; exact a6⟩
/-- matching alone -/
theorem cG.w (H : cG E T P A B n O m pl h) (F : ∀ a : Int, ¬ (598 ≤ a ∧ a ≤ 604) → a ≠ 595 → a ≠ 596 → h' a = h a) (cf : cF E T P h') : cG E T P A B n O m pl h' := by
  obtain ⟨a1, a2, a3, a4, a5, a6⟩ := H
  exact ⟨a1.to (fun a z => F a (by omega) (by omega) (by omega)) (fun p a p0 p1 z0 z1 => F a (by omega) (by omega) (by omega)), a2.to (by rw [F 4 (by decide) (by decide) (by decide)]) (by rw [F 4 (by decide) (by decide) (by decide)]) (F 607 (by decide) (by decide) (by decide)) (fun p p0 p1 => ⟨F _ (by omega) (by omega) (by omega), F _ (by omega) (by omega) (by omega)⟩), cf, a4.to (by rw [F 10 (by decide) (by decide) (by decide)]) (F (10 + 1) (by decide) (by decide) (by decide)), a5.to (by rw [F 12 (by decide) (by decide) (by decide)]) (F (12 + 1) (by decide) (by decide) (by decide)), by rw [F 597 (by decide) (by decide) (by decide)]; exact a6⟩
theorem mG.w (M : mG E T P A B n O m pl h) (F : mFrm h h') : mG E T P A B n O m pl h' := by
  obtain ⟨a1, a2, a3, a4, a5, a6⟩ := M
  obtain ⟨F, G⟩ := F
  exact ⟨a1.to (fun a z0 z1 => F a (by omega) (by omega)) (G 0 (by decide) (by decide) (by decide)) (G 2 (by decide) (by decide) (by decide)) (G 42 (by decide) (by decide) (by decide)), a2.to (G 47 (by decide) (by decide) (by decide)) (fun a z0 z1 => F a (by omega) (by omega)), by rw [G 41 (by decide) (by decide) (by decide)]; exact a3, a4.to (G 7 (by decide) (by decide) (by decide)) (F 613 (by decide) (by decide)), a5.to (G 76 (by decide) (by decide) (by decide)) (F 660 (by decide) (by decide)), by rw [G 23 (by decide) (by decide) (by decide)]; exact a6⟩
/-- the net's own -/
theorem cG.l (H : cG E T P A B n O m pl h) (F : ∀ a : Int, a ≠ 605 → a ≠ 606 → h' a = h a) : cG E T P A B n O m pl h' := by
  obtain ⟨a1, a2, a3, a4, a5, a6⟩ := H
  exact ⟨a1.fg F, a2.to (by rw [F 4 (by decide) (by decide)]) (by rw [F 4 (by decide) (by decide)]) (F 607 (by decide) (by decide)) (fun p p0 p1 => ⟨F _ (by omega) (by omega), F _ (by omega) (by omega)⟩), a3.to (F 603 (by decide) (by decide)) (F 604 (by decide) (by decide)), a4.to (by rw [F 10 (by decide) (by decide)]) (F (10 + 1) (by decide) (by decide)), a5.to (by rw [F 12 (by decide) (by decide)]) (F (12 + 1) (by decide) (by decide)), by rw [F 597 (by decide) (by decide)]; exact a6⟩
theorem mG.l (M : mG E T P A B n O m pl h) (F : mFrG h h') : mG E T P A B n O m pl h' := by
  obtain ⟨a1, a2, a3, a4, a5, a6⟩ := M
  have G := F.2
  exact ⟨a1.fg F, a2.to (G 47 (by decide)) (fun a z0 z1 => F.1 a (by omega) (by omega)), by rw [G 41 (by decide)]; exact a3, a4.to (G 7 (by decide)) (F.1 613 (by decide) (by decide)), a5.to (G 76 (by decide)) (F.1 660 (by decide) (by decide)), by rw [G 23 (by decide)]; exact a6⟩
theorem okP_put (op : okP E P) {p rk : Int} {D : NL} (r0 : 0 ≤ rk) (r1 : rk ≤ 1000) (od : okL E D) (wd : wf D 1) (ld : ln D ≤ 24) : okP E (pset P p (1, rk, D)) := fun p' p0' p1' => by
  by_cases c : p' = p
  · subst c
    rw [pset_at]
    exact ⟨Or.inr rfl, ld, fun _ => ⟨od, wd, r0, r1⟩⟩
  · rw [pset_ne c]
    exact op p' p0' p1'
end
