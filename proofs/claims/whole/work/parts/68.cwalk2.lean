/-! MATCHING, the class: the walk -/
def tabs (h : Hp) : Prop := (∀ i : Nat, i < 5 → h 2 i = (ocT.getD i 0 : Nat)) ∧ ∀ i : Nat, i < 96 → h 3 i = (ordT.getD i 0 : Nat)
def fhG (E : Ev) (P T : NL) (p t : Int) : Prop := (0 ≤ p ∧ p < ln P) ∧ (0 ≤ t ∧ t < ln T) ∧ fh E P T p t
/-- what stands while a pattern is fit: the heap h0, its nodes at pn, the answer at w -/
def WBs (g : Gl) (E : Ev) (P T : NL) (h0 : Hp) (pn w : Int) : Prop := okE E ∧ cE E h0 ∧ cTr T h0 ∧ okT E T ∧ wf T 1 ∧ okL E P ∧ wf P 1 ∧ ln P ≤ 24 ∧ NDs g pn 24 ∧ cN pn P h0 ∧ cS pn P h0 ∧ tabs h0 ∧ (w + 1 < 598 ∧ 4 ≤ w) ∧ lnn g (w + 1) = 300 ∧ (∀ a : Int, (a = 2 ∨ a = 3 ∨ (5 ≤ a ∧ a ≤ 9) ∨ (14 ≤ a ∧ a ≤ 23) ∨ (pn ≤ a ∧ a ≤ pn + 9)) → ¬ (598 ≤ a ∧ a ≤ 602) ∧ a ≠ w ∧ a ≠ w + 1)
/-- the same in a heap on the way -/
def WHs (g : Gl) (E : Ev) (P T : NL) (pn : Int) (h : Hp) : Prop := cE E h ∧ cTr T h ∧ cN pn P h ∧ cS pn P h ∧ tabs h
theorem WBs.at {g : Gl} {E : Ev} {P T : NL} {h0 h : Hp} {pn w q : Int} {fo : Bool} {fill : Fl} {s : St} (W : WBs g E P T h0 pn w) (S : WS h0 pn w fo q fill s h) : WHs g E P T pn h := by
  obtain ⟨b1, b2, b3, b4, b5, b6, b7, b8, b9, b10, b11, b12, b13, b14, b15⟩ := W
  have r : ∀ a : Int, (a = 2 ∨ a = 3 ∨ (5 ≤ a ∧ a ≤ 9) ∨ (14 ≤ a ∧ a ≤ 23) ∨ (pn ≤ a ∧ a ≤ pn + 9)) → h a = h0 a := fun a ha => S.1 a (b15 a ha).1 (b15 a ha).2.1 (b15 a ha).2.2
  refine ⟨b2.to (r 5 (by omega)) (r 6 (by omega)) (r 7 (by omega)) (r 8 (by omega)) (r 9 (by omega)), b3.to (fun a a0 a1 => r a (by omega)), b10.to (by rw [r pn (by omega)]) (fun k k0 k1 => r _ (by omega)), b11.to (r _ (by omega)), ?_⟩
  unfold tabs
  rw [r 2 (by omega), r 3 (by omega)]
  exact b12
section
variable {g : Gl} {E : Ev} {P T : NL} {h0 : Hp} {pn w : Int} {fo : Bool} {Q : Int → Hp → Prop}
theorem f_chainParts {d : Nat} {h : Hp} {q : Int} {fill : Fl} {s : St} (W : WBs g E P T h0 pn w) (S : WS h0 pn w fo q fill s h) {l p t : Int} {c : List (Int × Int)} {inn : Bool} (hl : lst h q ((p, t) :: c) inn l) (p0 : 0 ≤ p) (p1 : p < ln P) (t0 : 0 ≤ t) (t1 : t < ln T) {n o : Nat} (hn : n = (nd P p 7).toNat) (hn2 : n = (nd T t 7).toNat) (n4 : n ≤ 4) (ho : o < ocT.getD n 0) (q0 : 0 ≤ q) (qn : q + n ≤ 24) (lq : q ≤ 24) (k : ∀ (h' : Hp) (l' : Int), WS h0 pn w fo (q + n) fill s h' → chS h h' q → lst h' (q + n) (prt P T p t n o n 0 ++ c) inn l' → Q l' h') : Good g (d + 2) i3_chainParts [LR 3 598, LI l, LI n, LI o] S0 h S0 (retI Q) := by
  obtain ⟨b1, b2, b3, b4, b5, b6, b7, b8, b9, b10, b11, b12, b13, b14, b15⟩ := id W
  have l1 := b4.2.2.1
  have oc := (oc_p n n4).2
  have lp : ∀ (m : Nat) (h2 : Hp) (nx : Int), m ≤ n → WS h0 pn w fo (q + (n - m : Nat)) fill s h2 → chS h h2 q → lst h2 (q + (n - m : Nat)) (prt P T p t n o (n - m) m ++ c) inn nx → L0 g (d + 1) m3_chainParts (retI Q) 13 [some (LR 3 598), some (LI l), some (LI n), some (LI o), some (LI nx), some (LI ((m : Int) - 1)), none, none] h2 := by
    intro m
    induction m with
    | zero =>
      intro h2 nx _ S2 C2 L2
      exact v3_chainParts_13 ⟨fun _ => k h2 nx S2 C2 L2, fun z => absurd (by omega) z⟩
    | succ m ih =>
      intro h2 nx hm S2 C2 L2
      have H2 := W.at S2
      have ob := ord_b n n4 o ho m (by omega)
      have cl := C2 l hl.1 hl.2.1
      have e6 : h2 600 l = p := by rw [cl.1]; exact hl.2.2.1
      have e7 : h2 601 l = t := by rw [cl.2.1]; exact hl.2.2.2.1
      refine v3_chainParts_13 ⟨fun z => absurd z (by omega), fun _ => ?_⟩
      rw [w32_id (x := (o : Int) * 4) (by omega) (by omega), w32_id (x := 4 - (n : Int)) (by omega) (by omega), w32_id (x := (o : Int) * 4 + (4 - (n : Int))) (by omega) (by omega), w32_id (x := (o : Int) * 4 + (4 - (n : Int)) + (((m + 1 : Nat) : Int) - 1)) (by omega) (by omega), S2.2.1, e6, show (o : Int) * 4 + (4 - (n : Int)) + (((m + 1 : Nat) : Int) - 1) = ((o * 4 + (4 - n) + m : Nat) : Int) by omega, show ((m + 1 : Nat) : Int) - 1 = ((m : Nat) : Int) by omega]
      refine ⟨by omega, by omega, hl.1, by have := hl.2.1; omega, by have := b9.1; omega, f_partOf b9 H2.2.2.1.1 H2.2.2.2.1 b8 (by decide) p0 p1 (fun j hj => kd_lt b7 p0 p1 (by omega)) (by omega) ?_⟩
      have e3 : h2 3 ((o * 4 + (4 - n) + m : Nat) : Int) = (ordT.getD (o * 4 + (4 - n) + m) 0 : Nat) := H2.2.2.2.2.2 _ ob.2.2.1
      rw [e7, e3, w32_id (by omega) (by omega), show ((ordT.getD (o * 4 + (4 - n) + m) 0 : Nat) : Int) - (4 - (n : Int)) = ((ord n o m : Nat) : Int) by unfold ord; omega]
      refine f_partOf NDs.tree H2.2.1.1.1 H2.2.1.2.1 l1 (by decide) t0 t1 (fun j hj => kd_lt b5 t0 t1 (by omega)) (by omega) ?_
      refine f_chain b13 S2 (by omega) (by omega) (fun h3 S3 C3 x1 x2 x3 => ?_)
      rw [w32_id (by omega) (by omega), show (m : Int) + -1 = (m : Int) - 1 by omega]
      have eq : q + ((n - (m + 1) : Nat) : Int) + 1 = q + ((n - m : Nat) : Int) := by omega
      rw [eq] at S3
      refine ih h3 _ (by omega) S3 (C2.tr C3 (by omega)) ?_
      rw [show n - m = (n - (m + 1)) + 1 by omega]
      show lst h3 _ ((kd P p m, kd T t (ord n o m)) :: (prt P T p t n o (n - (m + 1)) (m + 1) ++ c)) inn _
      refine ⟨by omega, by omega, x1, x2, ?_⟩
      rw [x3]
      exact L2.to (by omega) (fun i i0 i1 => C3 i i0 i1)
  refine g3_chainParts (fun _ _ _ => v3_chainParts ⟨hl.1, by have := hl.2.1; omega, ?_⟩)
  rw [w32_id (by omega) (by omega)]
  have := lp n h (h 602 l) (Nat.le_refl _) (by rw [Nat.sub_self]; simpa using S) (chS.rf h q) (by rw [Nat.sub_self]; simpa [prt] using hl.2.2.2.2)
  exact this
/-- what walk owes at a fuel -/
def cW (g : Gl) (E : Ev) (P T : NL) (h0 : Hp) (pn w : Int) (fo : Bool) (f : Nat) : Prop := ∀ (c : List (Int × Int)) (inn : Bool) (fill : Fl) (s : St) (l q : Int) (h : Hp) (d : Nat) (Q : Int → Hp → Prop), WS h0 pn w fo q fill s h → lst h q c inn l → okc P T c → wgt P c ≤ f → 0 ≤ q → q ≤ 24 → q + wgt P c - (c.length : Nat) ≤ 24 → okSt s → okFl T fill → f ≤ 24 → (∀ h' : Hp, WS h0 pn w fo q fill (Wk P T (fhG E P T) (alk T) fo f c inn fill s).2 h' → chS h h' q → Q (cb ((Wk P T (fhG E P T) (alk T) fo f c inn fill s).1 = true)) h') → Good g (d + 3 * f + 6) i3_walk [LR 3 598, LI l, LI (25 - (f : Int))] S0 h S0 (retI Q)
/-- walkFrom at a fuel -/
theorem f_walkFrom {f : Nat} (W : WBs g E P T h0 pn w) (ih : cW g E P T h0 pn w fo f) {c : List (Int × Int)} {inn : Bool} {fill : Fl} {s : St} {l q p t : Int} {h : Hp} {d : Nat} (S : WS h0 pn w fo q fill s h) (hl : lst h q c inn l) (oc : okc P T ((p, t) :: c)) (hw : wgt P ((p, t) :: c) ≤ f) (q0 : 0 ≤ q) (qc : q + wgt P ((p, t) :: c) - (c.length : Nat) ≤ 24) (os : okSt s) (of : okFl T fill) (f4 : f < 24) (k : ∀ h' : Hp, WS h0 pn w fo q fill (Wk P T (fhG E P T) (alk T) fo f ((p, t) :: c) inn fill s).2 h' → chS h h' q → Q (cb ((Wk P T (fhG E P T) (alk T) fo f ((p, t) :: c) inn fill s).1 = true)) h') : Good g (d + 3 * f + 7) i3_walkFrom [LR 3 598, LI p, LI t, LI l, LI (25 - ((f + 1 : Nat) : Int))] S0 h S0 (retI Q) := by
  have b13 := W.2.2.2.2.2.2.2.2.2.2.2.2.1
  have wl := wgt_len oc
  simp only [List.length_cons] at wl
  have wp := wgt_nn (P := P) c
  refine g3_walkFrom (fun _ _ _ _ => v3_walkFrom (f_chain b13 S q0 (by omega) (fun h1 S1 C1 x1 x2 x3 => ?_)))
  have X := ih ((p, t) :: c) inn fill s q (q + 1) h1 d (fun r6 h4 => ∀ h7 : Hp, h7 = hup h4 598 6 (h 598 6) → (r6 = 0 ∨ r6 = 1) ∧ Q r6 h7) S1 ⟨q0, by omega, x1, x2, by rw [x3]; exact hl.to (by omega) (fun i i0 i1 => C1 i i0 i1)⟩ oc hw (by omega) (by omega) (by simp only [List.length_cons]; omega) os of (by omega) (fun h4 S4 C4 h7 k7 => ⟨cb_01 _, k h7 ?_ ?_⟩)
  · rw [w32_id (by omega) (by omega), show (25 : Int) - ((f + 1 : Nat) : Int) + 1 = 25 - (f : Int) by omega]
    exact X
  · obtain ⟨y1, y2, y3, y4, y5, y6, y7⟩ := S4
    rw [S.2.2.2.2.1] at k7
    exact ⟨fun a c1 c2 c3 => by rw [k7, hup_r (by omega)]; exact y1 a c1 c2 c3, by rw [k7, hup_nj (by decide)]; exact y2, by rw [k7, hup_nj (by decide)]; exact y3, by rw [k7, hup_nj (by decide)]; exact y4, by rw [k7, hup_at], fun j j0 j1 => by rw [k7, hup_ne (by decide)]; exact y6 j j0 j1, y7.to (by rw [k7, hup_r (by omega)]) (by rw [k7, hup_r (by omega)])⟩
  · refine C1.tr (fun i i0 i1 => ?_) (show q ≤ q by omega)
    have := C4 i i0 (by omega)
    exact ⟨by rw [k7, hup_ne (by decide)]; exact this.1, by rw [k7, hup_ne (by decide)]; exact this.2.1, by rw [k7, hup_ne (by decide)]; exact this.2.2⟩
end
