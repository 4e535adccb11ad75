/-! MATCHING, the class: the walk is the pure one -/
theorem Wk_t {P T : NL} {FH AL : Int → Int → Prop} {fo : Bool} {f : Nat} {fill : Fl} {s : St} : Wk P T FH AL fo f [] true fill s = (true, s) := by cases f <;> rfl
theorem Wk_f {P T : NL} {FH AL : Int → Int → Prop} {fo : Bool} {f : Nat} {fill : Fl} {s : St} : Wk P T FH AL fo f [] false fill s = (fo || decide ((kpW fill s).2.2.1 = 1), kpW fill s) := by cases f <;> rfl
theorem WS.q' {h0 h h' : Hp} {pn w q : Int} {fo : Bool} {fill : Fl} {s : St} (w9 : w + 1 < 598) {q' : Int} (S : WS h0 pn w fo q' fill s h) (e : h' = hup h 598 6 q) : WS h0 pn w fo q fill s h' := by
  obtain ⟨y1, y2, y3, y4, y5, y6, y7⟩ := S
  exact ⟨fun a c1 c2 c3 => by rw [e, hup_r (by omega)]; exact y1 a c1 c2 c3, by rw [e, hup_nj (by decide)]; exact y2, by rw [e, hup_nj (by decide)]; exact y3, by rw [e, hup_nj (by decide)]; exact y4, by rw [e, hup_at], fun j j0 j1 => by rw [e, hup_ne (by decide)]; exact y6 j j0 j1, y7.to (by rw [e, hup_r (by omega)]) (by rw [e, hup_r (by omega)])⟩
theorem WS.fl {h0 h h' : Hp} {pn w q : Int} {fo : Bool} {fill : Fl} {s : St} (w9 : w + 1 < 598) {nm v : Int} (S : WS h0 pn w fo q fill s h) (e : h' = hup h 599 nm v) : WS h0 pn w fo q (fup fill nm v) s h' := by
  obtain ⟨y1, y2, y3, y4, y5, y6, y7⟩ := S
  refine ⟨fun a c1 c2 c3 => by rw [e, hup_r (by omega)]; exact y1 a c1 c2 c3, by rw [e, hup_ne (by decide)]; exact y2, by rw [e, hup_ne (by decide)]; exact y3, by rw [e, hup_ne (by decide)]; exact y4, by rw [e, hup_ne (by decide)]; exact y5, fun j j0 j1 => ?_, y7.to (by rw [e, hup_r (by omega)]) (by rw [e, hup_r (by omega)])⟩
  by_cases c : j = nm
  · subst c
    rw [e, hup_at, fup_at]
  · rw [e, hup_nj c, fup_ne c]
    exact y6 j j0 j1
theorem fhG_in {E : Ev} {P T : NL} {p t : Int} (p0 : 0 ≤ p) (p1 : p < ln P) (t0 : 0 ≤ t) (t1 : t < ln T) : fh E P T p t ↔ fhG E P T p t := ⟨fun z => ⟨⟨p0, p1⟩, ⟨t0, t1⟩, z⟩, fun z => z.2.2⟩
section
variable {P T : NL} {FH AL : Int → Int → Prop} {rec : List (Int × Int) → Bool → Fl → St → Bool × St} {p t : Int} {c : List (Int × Int)} {inn : Bool} {fill : Fl} {s : St}
theorem Wn_0 (h : nd P p 0 = 0) : Wn P T FH AL rec p t c inn fill s = if nd P p 1 = nd T t 1 then orL (fun o s => rec (prt P T p t (nd P p 7).toNat o (nd P p 7).toNat 0 ++ c) inn fill s) (nO P p) 0 s else (false, s) := by unfold Wn; rw [if_pos h]
theorem Wn_1 (h : nd P p 0 = 1) : Wn P T FH AL rec p t c inn fill s = if nd T t 0 = 1 ∧ nd T t 5 = nd P p 5 then rec c inn fill s else (false, s) := by unfold Wn; rw [if_neg (by omega), if_pos h]
theorem Wn_2 (h : nd P p 0 = 2) : Wn P T FH AL rec p t c inn fill s = @ite _ (FH p t) (Classical.propDecidable _) (if nd P p 3 < 0 then rec c inn fill s else if fill (nd P p 3) = -1 then rec c inn (fup fill (nd P p 3) t) s else @ite _ (AL (fill (nd P p 3)) t) (Classical.propDecidable _) (rec c inn fill s) (false, s)) (false, s) := by unfold Wn; rw [if_neg (by omega), if_neg (by omega), if_pos h]
theorem Wn_3 (h : nd P p 0 = 3) : Wn P T FH AL rec p t c inn fill s = orL (fun o s => rec ((p + 1, t + o) :: c) inn fill s) (sz T t).toNat 0 s := by unfold Wn; rw [if_neg (by omega), if_neg (by omega), if_neg (by omega), if_pos h]
theorem Wn_4 (h : nd P p 0 = 4) : Wn P T FH AL rec p t c inn fill s = if (orL (fun o s => rec [(p + 1, t + o)] true fill s) (sz T t).toNat 0 s).1 = true then (decide ((orL (fun o s => rec [(p + 1, t + o)] true fill s) (sz T t).toNat 0 s).2.2.1 = 1), (orL (fun o s => rec [(p + 1, t + o)] true fill s) (sz T t).toNat 0 s).2) else rec c inn fill (orL (fun o s => rec [(p + 1, t + o)] true fill s) (sz T t).toNat 0 s).2 := by unfold Wn; rw [if_neg (by omega), if_neg (by omega), if_neg (by omega), if_neg (by omega)]
end
section
variable {g : Gl} {E : Ev} {P T : NL} {h0 : Hp} {pn w : Int} {fo : Bool} {f d : Nat} {c : List (Int × Int)} {inn : Bool} {fill : Fl} {s : St} {l q p t : Int} {h : Hp} {Q : Int → Hp → Prop}
/-- the outcome R is handed on -/
def wPo (h0 : Hp) (pn w : Int) (fo : Bool) (q : Int) (fill : Fl) (h : Hp) (Q : Int → Hp → Prop) (R : Bool × St) : Prop := ∀ h' : Hp, WS h0 pn w fo q fill R.2 h' → chS h h' q → Q (cb (R.1 = true)) h'
theorem c_nowhere (W : WBs g E P T h0 pn w) (ih : cW g E P T h0 pn w fo f) (S : WS h0 pn w fo q fill s h) (hl : lst h q ((p, t) :: c) inn l) (oc : okc P T ((p, t) :: c)) (hw : wgt P ((p, t) :: c) ≤ ((f + 1 : Nat) : Int)) (q0 : 0 ≤ q) (q24 : q ≤ 24) (qc : q + wgt P ((p, t) :: c) - (((p, t) :: c).length : Nat) ≤ 24) (os : okSt s) (of : okFl T fill) (f4 : f + 1 ≤ 24) (s4 : nd P p 0 = 4) (k : wPo h0 pn w fo q fill h Q (Wn P T (fhG E P T) (alk T) (Wk P T (fhG E P T) (alk T) fo f) p t c inn fill s)) : Good g (d + 3 * f + 8) i3_walkNowhere [LR 3 598, LI l, LI (25 - ((f + 1 : Nat) : Int))] S0 h S0 (retI Q) := by
  obtain ⟨b1, b2, b3, b4, b5, b6, b7, b8, b9, b10, b11, b12, b13, b14, b15⟩ := id W
  obtain ⟨l0, l1, e6, e7, hl2⟩ := id hl
  obtain ⟨p0, p1, t0, t1⟩ := oc (p, t) List.mem_cons_self
  simp only at p0 p1 t0 t1 e6 e7
  have oc' : okc P T c := fun x hx => oc x (List.mem_cons_of_mem _ hx)
  have wl := wgt_len oc'
  have lT := b4.2.2.1
  have op := b6 p p0 p1
  have H := W.at S
  simp only [wgt, List.length_cons] at hw qc
  have pa : (nd P p 7).toNat = 1 := by rcases op with o | o | o | o <;> omega
  have kp := sz_kd (L := P) p0 p1
  rw [pa, kd_s p0, kd_0] at kp
  have p2 : p + 1 < ln P := by
    have := kd_lt b7 p0 p1 (j := 0) (by omega)
    rwa [kd_0] at this
  have sp1 := sz_pos (L := P) (i := p + 1) (by omega) p2
  have st := sz_le (L := T) t0 t1
  have sq := sz_pos (L := T) t0 t1
  have es : h 23 t = sz T t := H.2.1.2.1 t t0 t1
  rw [Wn_4 s4] at k
  have lp : ∀ (m i : Nat) (s4 : St) (h4 : Hp), i + m = (sz T t).toNat → WS h0 pn w fo q fill s4 h4 → chS h h4 q → okSt s4 → wPo h0 pn w fo q fill h Q (if (orL (fun o s => Wk P T (fhG E P T) (alk T) fo f [(p + 1, t + o)] true fill s) m i s4).1 = true then (decide ((orL (fun o s => Wk P T (fhG E P T) (alk T) fo f [(p + 1, t + o)] true fill s) m i s4).2.2.1 = 1), (orL (fun o s => Wk P T (fhG E P T) (alk T) fo f [(p + 1, t + o)] true fill s) m i s4).2) else Wk P T (fhG E P T) (alk T) fo f c inn fill (orL (fun o s => Wk P T (fhG E P T) (alk T) fo f [(p + 1, t + o)] true fill s) m i s4).2) → L0 g (d + 3 * f + 7) m3_walkNowhere (retI Q) 23 [some (LR 3 598), some (LI l), some (LI (25 - ((f + 1 : Nat) : Int))), none, some (LI (t + sz T t)), some (LI (t + i))] h4 := by
    intro m
    induction m with
    | zero =>
      intro i s4 h4 hi S4 C4 o4 k4
      have hl4 : lst h4 q ((p, t) :: c) inn l := hl.to (by omega) (fun i i0 i1 => C4 i i0 i1)
      refine v3_walkNowhere_23 ⟨fun _ => ⟨l0, by omega, ?_⟩, fun z => absurd (by omega) z⟩
      rw [w32_id (by omega) (by omega), show (25 : Int) - ((f + 1 : Nat) : Int) + 1 = 25 - (f : Int) by omega, show d + 3 * f + 7 = (d + 1) + 3 * f + 6 by omega]
      unfold orL at k4
      rw [if_neg (by simp)] at k4
      exact ih c inn fill s4 _ q h4 (d + 1) _ S4 hl4.2.2.2.2 oc' (by omega) q0 q24 (by omega) o4 of (by omega) (fun h' S' C' => ⟨cb_01 _, k4 h' S' (C4.tr C' (by omega))⟩)
    | succ m ihm =>
      intro i s4 h4 hi S4 C4 o4 k4
      have hl4 : lst h4 q ((p, t) :: c) inn l := hl.to (by omega) (fun i i0 i1 => C4 i i0 i1)
      have e64 : h4 600 l = p := hl4.2.2.1
      unfold orL at k4
      refine v3_walkNowhere_23 ⟨fun z => absurd z (by omega), fun _ => ⟨l0, by omega, ?_⟩⟩
      rw [e64, w32_id (x := p + 1) (by omega) (by omega)]
      refine f_walkFrom (c := []) (inn := true) W ih S4 (show lst h4 q [] true (-2) from rfl) (fun x hx => by rcases List.mem_cons.mp hx with rfl | z; exact ⟨by simp only; omega, p2, by simp only; omega, by simp only; omega⟩; cases z) (by simp only [wgt]; omega) q0 (by simp only [wgt, List.length_nil]; omega) o4 of (by omega) (fun h5 S5 C5 => ?_)
      have o5 : okSt (Wk P T (fhG E P T) (alk T) fo f [(p + 1, t + (i : Int))] true fill s4).2 := okSt_W f _ _ _ _ o4
      generalize hR : Wk P T (fhG E P T) (alk T) fo f [(p + 1, t + (i : Int))] true fill s4 = R at *
      refine bz (fun cr => ?_) (fun cr => ?_)
      · rw [if_neg cr] at k4
        rw [w32_id (by omega) (by omega), show t + (i : Int) + 1 = t + ((i + 1 : Nat) : Int) by omega]
        exact ihm (i + 1) _ h5 (by omega) S5 (C4.tr C5 (by omega)) o5 k4
      · rw [if_pos cr] at k4
        rw [S5.2.2.1]
        refine ⟨by omega, fun _ => ?_⟩
        have ev := S5.2.2.2.2.2.2.2.2.1
        rw [ev]
        rw [if_pos rfl] at k4
        have := k4 h5 S5 (C4.tr C5 (by omega))
        simp only [decide_eq_true_eq] at this
        rcases o5.2.2.1 with z | z
        · rw [z]
          rwa [cb_f (by omega)] at this
        · rw [z]
          rwa [cb_t z] at this
  refine g3_walkNowhere (d := d + 3 * f + 7) (fun _ _ => v3_walkNowhere ⟨l0, by omega, ?_⟩)
  rw [e7, es, w32_id (by omega) (by omega)]
  refine ⟨t0, by omega, ?_⟩
  have := lp (sz T t).toNat 0 s h (by omega) S (chS.rf h q) os k
  rwa [show t + ((0 : Nat) : Int) = t by omega] at this
theorem c_below (W : WBs g E P T h0 pn w) (ih : cW g E P T h0 pn w fo f) (S : WS h0 pn w fo q fill s h) (hl : lst h q ((p, t) :: c) inn l) (oc : okc P T ((p, t) :: c)) (hw : wgt P ((p, t) :: c) ≤ ((f + 1 : Nat) : Int)) (q0 : 0 ≤ q) (q24 : q ≤ 24) (qc : q + wgt P ((p, t) :: c) - (((p, t) :: c).length : Nat) ≤ 24) (os : okSt s) (of : okFl T fill) (f4 : f + 1 ≤ 24) (s3 : nd P p 0 = 3) (k : wPo h0 pn w fo q fill h Q (Wn P T (fhG E P T) (alk T) (Wk P T (fhG E P T) (alk T) fo f) p t c inn fill s)) : Good g (d + 3 * f + 8) i3_walkBelow [LR 3 598, LI l, LI (25 - ((f + 1 : Nat) : Int))] S0 h S0 (retI Q) := by
  obtain ⟨b1, b2, b3, b4, b5, b6, b7, b8, b9, b10, b11, b12, b13, b14, b15⟩ := id W
  obtain ⟨l0, l1, e6, e7, hl2⟩ := id hl
  obtain ⟨p0, p1, t0, t1⟩ := oc (p, t) List.mem_cons_self
  simp only at p0 p1 t0 t1 e6 e7
  have oc' : okc P T c := fun x hx => oc x (List.mem_cons_of_mem _ hx)
  have wl := wgt_len oc'
  have lT := b4.2.2.1
  have op := b6 p p0 p1
  have H := W.at S
  simp only [wgt, List.length_cons] at hw qc
  have pa : (nd P p 7).toNat = 1 := by rcases op with o | o | o | o <;> omega
  have kp := sz_kd (L := P) p0 p1
  rw [pa, kd_s p0, kd_0] at kp
  have p2 : p + 1 < ln P := by
    have := kd_lt b7 p0 p1 (j := 0) (by omega)
    rwa [kd_0] at this
  have st := sz_le (L := T) t0 t1
  have sq := sz_pos (L := T) t0 t1
  have es : h 23 t = sz T t := H.2.1.2.1 t t0 t1
  rw [Wn_3 s3] at k
  have lp : ∀ (m i : Nat) (s4 : St) (h4 : Hp), i + m = (sz T t).toNat → WS h0 pn w fo q fill s4 h4 → chS h h4 q → okSt s4 → wPo h0 pn w fo q fill h Q (orL (fun o s => Wk P T (fhG E P T) (alk T) fo f ((p + 1, t + o) :: c) inn fill s) m i s4) → L0 g (d + 3 * f + 7) m3_walkBelow (retI Q) 26 [some (LR 3 598), some (LI l), some (LI (25 - ((f + 1 : Nat) : Int))), none, some (LI (t + sz T t)), some (LI 0), some (LI (t + i))] h4 := by
    intro m
    induction m with
    | zero =>
      intro i s4 h4 hi S4 C4 o4 k4
      unfold orL at k4
      have := k4 h4 S4 C4
      rw [cb_f (by simp)] at this
      exact v3_walkBelow_26 ⟨fun _ => ⟨Or.inl rfl, this⟩, fun z => absurd (by omega) z⟩
    | succ m ihm =>
      intro i s4 h4 hi S4 C4 o4 k4
      have hl4 : lst h4 q ((p, t) :: c) inn l := hl.to (by omega) (fun i i0 i1 => C4 i i0 i1)
      have e64 : h4 600 l = p := hl4.2.2.1
      unfold orL at k4
      refine v3_walkBelow_26 ⟨fun z => absurd z (by omega), fun _ => ⟨fun z => absurd rfl z, fun _ => ⟨l0, by omega, ?_⟩⟩⟩
      rw [e64, w32_id (x := p + 1) (by omega) (by omega)]
      refine f_walkFrom W ih S4 hl4.2.2.2.2 (fun x hx => by
        rcases List.mem_cons.mp hx with rfl | z
        · exact ⟨by simp only; omega, p2, by simp only; omega, by simp only; omega⟩
        · exact oc' x z) (by simp only [wgt]; omega) q0 (by simp only [wgt]; omega) o4 of (by omega) (fun h5 S5 C5 => ?_)
      have o5 : okSt (Wk P T (fhG E P T) (alk T) fo f ((p + 1, t + (i : Int)) :: c) inn fill s4).2 := okSt_W f _ _ _ _ o4
      generalize hR : Wk P T (fhG E P T) (alk T) fo f ((p + 1, t + (i : Int)) :: c) inn fill s4 = R at *
      rw [w32_id (by omega) (by omega), show t + (i : Int) + 1 = t + ((i + 1 : Nat) : Int) by omega]
      by_cases cr : R.1 = true
      · rw [if_pos cr] at k4
        have := k4 h5 S5 (C4.tr C5 (by omega))
        rw [cb_t rfl] at this
        rw [cb_t cr]
        exact v3_walkBelow_26 ⟨fun _ => ⟨Or.inr rfl, this⟩, fun _ => ⟨fun _ => ⟨Or.inr rfl, this⟩, fun z => absurd z (by decide)⟩⟩
      · rw [if_neg cr] at k4
        rw [cb_f cr]
        exact ihm (i + 1) _ h5 (by omega) S5 (C4.tr C5 (by omega)) o5 k4
  refine g3_walkBelow (d := d + 3 * f + 7) (fun _ _ => v3_walkBelow ⟨l0, by omega, ?_⟩)
  rw [e7, es, w32_id (by omega) (by omega)]
  refine ⟨t0, by omega, ?_⟩
  have := lp (sz T t).toNat 0 s h (by omega) S (chS.rf h q) os k
  rwa [show t + ((0 : Nat) : Int) = t by omega] at this
theorem c_parts (W : WBs g E P T h0 pn w) (ih : cW g E P T h0 pn w fo f) (S : WS h0 pn w fo q fill s h) (hl : lst h q ((p, t) :: c) inn l) (oc : okc P T ((p, t) :: c)) (hw : wgt P ((p, t) :: c) ≤ ((f + 1 : Nat) : Int)) (q0 : 0 ≤ q) (q24 : q ≤ 24) (qc : q + wgt P ((p, t) :: c) - (((p, t) :: c).length : Nat) ≤ 24) (os : okSt s) (of : okFl T fill) (f4 : f + 1 ≤ 24) (s0 : nd P p 0 = 0) (he : nd P p 1 = nd T t 1) (k : wPo h0 pn w fo q fill h Q (Wn P T (fhG E P T) (alk T) (Wk P T (fhG E P T) (alk T) fo f) p t c inn fill s)) : Good g (d + 3 * f + 8) i3_walkParts [LR 3 598, LI l, LI (25 - ((f + 1 : Nat) : Int))] S0 h S0 (retI Q) := by
  obtain ⟨b1, b2, b3, b4, b5, b6, b7, b8, b9, b10, b11, b12, b13, b14, b15⟩ := id W
  obtain ⟨l0, l1, e6, e7, hl2⟩ := id hl
  obtain ⟨p0, p1, t0, t1⟩ := oc (p, t) List.mem_cons_self
  simp only at p0 p1 t0 t1 e6 e7
  have oc' : okc P T c := fun x hx => oc x (List.mem_cons_of_mem _ hx)
  have wl := wgt_len oc'
  have lT := b4.2.2.1
  have op := b6 p p0 p1
  have o7 := op.p7 b1
  have H := W.at S
  simp only [wgt, List.length_cons] at hw qc
  have kp := sz_kd (L := P) p0 p1
  have t7 : nd T t 7 = nd P p 7 := by
    have ot := b4.1 t t0 t1
    rcases op with o | o | o | o
    · rcases ot with u | u | u | u
      · rw [o.2.2.2.2.2.2.2.2.1, u.2.2.2.2.2.2.2.2.1, he]
      · omega
      · omega
      · omega
    · omega
    · omega
    · omega
  generalize hn : (nd P p 7).toNat = n at *
  have n4 : n ≤ 4 := by omega
  have en : nd P p 7 = (n : Int) := by omega
  have ocb := oc_p n n4
  rw [Wn_0 s0, if_pos he, hn] at k
  have no_le : nO P p ≤ ocT.getD n 0 := by
    unfold nO
    rw [hn]
    split
    · exact Nat.le_refl _
    · exact ocb.1
  have lp : ∀ (m i : Nat) (s4 : St) (h4 : Hp), i + m = nO P p → WS h0 pn w fo q fill s4 h4 → chS h h4 q → okSt s4 → wPo h0 pn w fo q fill h Q (orL (fun o s => Wk P T (fhG E P T) (alk T) fo f (prt P T p t n o n 0 ++ c) inn fill s) m i s4) → L0 g (d + 3 * f + 7) m3_walkParts (retI Q) 54 [some (LR 3 598), some (LI l), some (LI (25 - ((f + 1 : Nat) : Int))), none, some (LI n), some (LI (nO P p : Nat)), some (LI 0), some (LI i), none] h4 := by
    intro m
    induction m with
    | zero =>
      intro i s4 h4 hi S4 C4 o4 k4
      unfold orL at k4
      have := k4 h4 S4 C4
      rw [cb_f (by simp)] at this
      exact v3_walkParts_54 ⟨fun _ => ⟨Or.inl rfl, this⟩, fun z => absurd (by omega) z⟩
    | succ m ihm =>
      intro i s4 h4 hi S4 C4 o4 k4
      have hl4 : lst h4 q ((p, t) :: c) inn l := hl.to (by omega) (fun i i0 i1 => C4 i i0 i1)
      unfold orL at k4
      have wp := prt_wgt (T := T) (t := t) (n := n) (o := i) (P := P) p0 n 0
      rw [Nat.zero_add, kp, kd_0] at wp
      have pl := prt_len (P := P) (T := T) (p := p) (t := t) (n := n) (o := i) n 0
      have okp := okc_prt b7 b5 p0 p1 t0 t1 (n := n) (o := i) hn.symm (by rw [t7, hn]) n4 (by omega) n 0 (by omega)
      have wpl := wgt_len okp
      rw [pl] at wpl
      refine v3_walkParts_54 ⟨fun z => absurd z (by omega), fun _ => ⟨fun z => absurd rfl z, fun _ => ?_⟩⟩
      refine f_chainParts W S4 hl4 p0 p1 t0 t1 hn.symm (by rw [t7, hn]) n4 (by omega) q0 (by omega) q24 (fun h5 l5 S5 C5 L5 => ?_)
      rw [w32_id (by omega) (by omega), show (25 : Int) - ((f + 1 : Nat) : Int) + 1 = 25 - (f : Int) by omega, show d + 3 * f + 7 = (d + 1) + 3 * f + 6 by omega]
      refine ih (prt P T p t n i n 0 ++ c) inn fill s4 l5 (q + n) h5 (d + 1) _ S5 L5 (fun x hx => ?_) (by rw [wgt_app, wp]; omega) (by omega) (by omega) (by rw [wgt_app, wp, List.length_append, pl]; omega) o4 of (by omega) (fun h6 S6 C6 h9 k9 => ?_)
      · rcases List.mem_append.mp hx with z | z
        · exact okp x z
        · exact oc' x z
      · have o6 : okSt (Wk P T (fhG E P T) (alk T) fo f (prt P T p t n i n 0 ++ c) inn fill s4).2 := okSt_W f _ _ _ _ o4
        generalize hR : Wk P T (fhG E P T) (alk T) fo f (prt P T p t n i n 0 ++ c) inn fill s4 = R at *
        rw [S4.2.2.2.2.1] at k9
        have S9 : WS h0 pn w fo q fill R.2 h9 := S6.q' b13.1 k9
        have C9 : chS h h9 q := by
          refine C4.tr ?_ (show q ≤ q by omega)
          intro j j0 j1
          have x1 := C5 j j0 j1
          have x2 := C6 j j0 (by omega)
          exact ⟨by rw [k9, hup_ne (by decide), x2.1, x1.1], by rw [k9, hup_ne (by decide), x2.2.1, x1.2.1], by rw [k9, hup_ne (by decide), x2.2.2, x1.2.2]⟩
        rw [w32_id (by omega) (by omega), show (i : Int) + 1 = ((i + 1 : Nat) : Int) by omega, show (d + 1) + 3 * f + 6 = d + 3 * f + 7 by omega]
        by_cases cr : R.1 = true
        · rw [if_pos cr] at k4
          have := k4 h9 S9 C9
          rw [cb_t rfl] at this
          rw [cb_t cr]
          exact v3_walkParts_54 ⟨fun _ => ⟨Or.inr rfl, this⟩, fun _ => ⟨fun _ => ⟨Or.inr rfl, this⟩, fun z => absurd z (by decide)⟩⟩
        · rw [if_neg cr] at k4
          rw [cb_f cr]
          exact ihm (i + 1) _ h9 (by omega) S9 C9 o6 k4
  refine g3_walkParts (d := d + 3 * f + 7) (fun _ _ => v3_walkParts ⟨l0, by omega, ?_⟩)
  rw [S.2.1, e6]
  refine f_partsOfNode (d := d + 3 * f + 5) b1 H.1 b9 H.2.2.1 b8 p0 p1 op ?_
  rw [S.2.1]
  refine f_isLooseNode (d := d + 3 * f + 5) b1 H.1 b9 H.2.2.1 b8 p0 p1 op ?_
  have X := lp (nO P p) 0 s h (by omega) S (chS.rf h q) os k
  rw [en]
  refine bz (fun c2 => ?_) (fun c2 => ⟨by omega, by omega, ?_⟩)
  · have : nO P p = 1 := by unfold nO; rw [if_neg c2]
    rw [this] at X
    exact X
  · have e2 : h 2 (n : Int) = (ocT.getD n 0 : Nat) := H.2.2.2.2.1 n (by omega)
    have : nO P p = ocT.getD n 0 := by unfold nO; rw [if_pos c2, hn]
    rw [e2]
    rw [this] at X
    exact X
end
