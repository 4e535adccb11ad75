/-! THE START: the light world over the machine's own start; the constructors; the law -/
theorem in_ins : ∀ t : Nat, t < 11 → Cond.instantiable (cnm t) (nf t) ∈ lw_tbl := by
  intro t ht
  match t, ht with
  | 0, _ => exact (cA_.get (k := 6024) (v := 0) rfl).2.2.1
  | 1, _ => exact (cA_.get (k := 9070) (v := 1) rfl).2.2.1
  | 2, _ => exact (cA_.get (k := 9007) (v := 2) rfl).2.2.1
  | 3, _ => exact (cA_.get (k := 9061) (v := 3) rfl).2.2.1
  | 4, _ => exact (cA_.get (k := 9079) (v := 4) rfl).2.2.1
  | 5, _ => exact (cA_.get (k := 6009) (v := 5) rfl).2.2.1
  | 6, _ => exact (cA_.get (k := 9038) (v := 6) rfl).2.2.1
  | 7, _ => exact (cA_.get (k := 9052) (v := 7) rfl).2.2.1
  | 8, _ => exact (cA_.get (k := 9016) (v := 8) rfl).2.2.1
  | 9, _ => exact (cA_.get (k := 13007) (v := 9) rfl).2.2.1
  | 10, _ => exact (cA_.get (k := 13010) (v := 10) rfl).2.2.1
theorem arr_c {s : State} {cA : ClassId} {ty : FieldType} (h : ∃ k, s.vm.classes[cA]? = some k ∧ ∃ comp, k.kind = .array comp ty) : ArrOfT s cA ty := fun n z => ⟨fun k w => VmData.noConfusion (show VmData.none = VmData.statics k from w), h⟩
theorem arr_p {s : State} {args : Array Value} {ty : FieldType} (h : (Cond.arrayClass ty).before args s = true) : ∃ cA : ClassId, ArrOfT s cA ty ∧ s.vm.findClass ("[" ++ ty.toString) = some cA := by
  obtain ⟨c, k, comp, h1, h2, h3⟩ := Cond.arrayClass_spec h
  exact ⟨c, arr_c ⟨k, h2, comp, h3⟩, h1⟩
theorem arr_o {s : State} {args : Array Value} {n : String} (h : (Cond.arrayOver (.object n)).before args s = true) : ∃ cA : ClassId, ArrOfT s cA (.object n) ∧ va_RA s cA (.object n) := by
  obtain ⟨comp, c, k, h1, h2, h3, h4, h5⟩ := Cond.arrayOver_spec h
  exact ⟨c, arr_c ⟨k, h3, comp, h4⟩, k, comp, h3, h4, h1, h5⟩
def tmC : Term := .static "RuleNet$Matcher" "ORDER_COUNTS" "[I"
def tmO : Term := .static "RuleNet$Matcher" "ORDERS" "[I"
theorem fl_C : ∀ j : Nat, j < 5 → Cond.eq (.elem tmC (.int (Int32.ofNat j))) (.int (Int32.ofInt ((ocT.getD j 0 : Nat) : Int))) ∈ flatC (Jvm.Cond.and given_1 narrow_1) := by decide +kernel
theorem fl_O : ∀ j : Nat, j < 96 → Cond.eq (.elem tmO (.int (Int32.ofNat j))) (.int (Int32.ofInt ((ordT.getD j 0 : Nat) : Int))) ∈ flatC (Jvm.Cond.and given_1 narrow_1) := by decide +kernel
theorem start_g {s : State} {b L : Nat} {xs : Nat → Int32} (l : Launch) (hL : L ≤ 3072) (hts : ∀ w ∈ lw_tbl, w.before #[Value.ref b] s = true) (hX : va_X b L xs s s.heap) (hbl : b < s.heap.size) (hgv : (Jvm.Cond.and given_1 narrow_1).before #[Value.ref b] s = true) : ∃ (g : Gl) (h : Hp), gL g = l ∧ gB g = s.heap.size ∧ gR g 1 = b ∧ GK g ∧ KN g s ∧ SZ g s s.heap ∧ tabs h ∧ ∀ r : Nat → Int → Int → Int, HR g (4, r) h s.heap := by
  have hs := flat_of_before _ hgv
  have hA : ∀ a : Nat, a < s.heap.size → ¬ (fun q : Nat => s.heap.size ≤ q) a := fun a ha z => absurd z (Nat.not_le.mpr ha)
  obtain ⟨t2, et2, c2, p21, p22, p23, p24, p25, p26, p27⟩ := va_Tof (args := #[Value.ref b]) (s := s) (tm := tmC) (ty := .int) (N := 5) (f := fun j => .int (Int32.ofInt ((ocT.getD j 0 : Nat) : Int))) (A := fun q => s.heap.size ≤ q) (by decide) (hs (Cond.arrayOf tmC .int) (by decide +kernel)) (va_eqt (hs (Cond.eq (.length tmC) (.int 5)) (by decide +kernel))) (fun j hj => va_eqt (hs _ (fl_C j hj))) hA
  obtain ⟨t3, et3, c3, p31, p32, p33, p34, p35, p36, p37⟩ := va_Tof (args := #[Value.ref b]) (s := s) (tm := tmO) (ty := .int) (N := 96) (f := fun j => .int (Int32.ofInt ((ordT.getD j 0 : Nat) : Int))) (A := fun q => s.heap.size ≤ q) (by decide) (hs (Cond.arrayOf tmO .int) (by decide +kernel)) (va_eqt (hs (Cond.eq (.length tmO) (.int 96)) (by decide +kernel))) (fun j hj => va_eqt (hs _ (fl_O j hj))) hA
  have z2 : va_Z "RuleNet$Matcher" "ORDER_COUNTS" "[I" (.ref t2) (fun q => s.heap.size ≤ q) s s.heap := va_Zof (hts _ in_st.1) (hts _ in_st.2.2) et2 hA
  have z3 : va_Z "RuleNet$Matcher" "ORDERS" "[I" (.ref t3) (fun q => s.heap.size ≤ q) s s.heap := va_Zof (hts _ in_st.2.1) (hts _ in_st.2.2) et3 hA
  obtain ⟨c1, p11, p12, p13, p14, p15⟩ := hX
  obtain ⟨cI, i1, i2⟩ := arr_p (hts _ in_arr.1)
  obtain ⟨cJ, j1, j2⟩ := arr_p (hts _ in_arr.2.1)
  obtain ⟨cZ, k1, k2⟩ := arr_p (hts _ in_arr.2.2.1)
  obtain ⟨cB, l1, l2⟩ := arr_p (hts _ in_arr.2.2.2.1)
  obtain ⟨cP, m1, m2⟩ := arr_o (hts _ in_arr.2.2.2.2)
  have hk : ∀ t : Nat, ∃ q : ClassId × (Nat → Nat), t < 11 → u_Kn s (cnm t) (fT t) (nf t) q.1 q.2 := fun t => by
    by_cases ht : t < 11
    · obtain ⟨cC, iS, z⟩ := u_known (C := cnm t) (T := fT t) (N := nf t) hts (in_all ht) (hts _ (in_ins t ht))
      exact ⟨(cC, iS), fun _ => z⟩
    · exact ⟨(0, fun _ => 0), fun z => absurd z ht⟩
  have o2 : t2 < s.heap.size := (Array.getElem?_eq_some_iff.mp p21).1
  have o3 : t3 < s.heap.size := (Array.getElem?_eq_some_iff.mp p31).1
  refine ⟨(l, fun t => (Classical.choose (hk t)).1, fun t => (Classical.choose (hk t)).2, fun t => if t = 20 then cI else if t = 21 then cJ else if t = 22 then cZ else if t = 23 then cB else if t = 24 then cP else if t = 101 then c1.cls else if t = 102 then c2.cls else c3.cls, s.heap.size, fun a => if a = 1 then b else if a = 2 then t2 else if a = 3 then t3 else s.heap.size + (a - 4).toNat, L), fun a i => if a = 1 then (xs i.toNat).toInt else if a = 2 then ((ocT.getD i.toNat 0 : Nat) : Int) else ((ordT.getD i.toNat 0 : Nat) : Int), rfl, rfl, rfl, ⟨fun a ha => ?_, hbl, o2, o3, hL⟩, ⟨⟨va_Nw.of rfl (hts _ in_nest.1), va_Nw.of rfl (hts _ in_nest.2.1), va_Nw.of rfl (hts _ in_nest.2.2), va_AO.of (hts _ in_arr.2.2.2.2)⟩, fun t ht => Classical.choose_spec (hk t) ht, fun t h1 h2 => ?_, fun j h1 h2 => ?_⟩, ⟨z2, z3⟩, ⟨fun i hi => ?_, fun i hi => ?_⟩, fun r => ⟨Int.le_refl 4, rfl, fun a a0 a1 => ?_⟩⟩
  · show (if a = 1 then b else if a = 2 then t2 else if a = 3 then t3 else s.heap.size + (a - 4).toNat) = s.heap.size + (a - 4).toNat
    rw [if_neg (by omega), if_neg (by omega), if_neg (by omega)]
  · rcases (show t = 20 ∨ t = 21 ∨ t = 22 ∨ t = 23 ∨ t = 24 by omega) with rfl | rfl | rfl | rfl | rfl
    · exact ⟨i1, i2⟩
    · exact ⟨j1, j2⟩
    · exact ⟨k1, k2⟩
    · exact ⟨l1, l2⟩
    · exact ⟨m1, m2⟩
  · rcases (show j = 1 ∨ j = 2 ∨ j = 3 by omega) with rfl | rfl | rfl
    · exact arr_c p12.2
    · exact arr_c p22.2
    · exact arr_c p32.2
  · rfl
  · rfl
  · have a1 : a < 4 := a1
    have o32 : ∀ x : Int32, inI x.toInt := fun x => ⟨by have := Int32.le_toInt x; omega, by have := Int32.toInt_lt x; omega⟩
    rcases (show a = 1 ∨ a = 2 ∨ a = 3 by omega) with rfl | rfl | rfl
    · unfold CR
      rw [if_neg (by decide)]
      refine ⟨⟨c1, p11, rfl, ⟨p13, p12.1, fun z => absurd z (by decide)⟩, AZ.of p14 (show (0 : Int) ≤ ((L : Nat) : Int) by omega), fun i hi => ?_⟩, fun i hi => o32 _⟩
      rw [p15 i hi]
      show some (Value.int (xs i)) = some (Value.int (Int32.ofInt (xs i).toInt))
      rw [Int32.ofInt_toInt]
    · unfold CR
      rw [if_neg (by decide)]
      refine ⟨⟨c2, p21, rfl, ⟨p23, p22.1, fun z => absurd z (by decide)⟩, ⟨p24, p25, fun z => absurd z (by decide)⟩, fun i hi => p26 i hi⟩, fun i hi => ?_⟩
      have key : ∀ i : Nat, i < 5 → inI ((ocT.getD i 0 : Nat) : Int) := by
        intro i hi
        have : ∀ i : Fin 5, ocT.getD i.val 0 ≤ 24 := by decide
        have := this ⟨i, hi⟩
        exact ⟨by omega, by simp only at this; omega⟩
      exact key i hi
    · unfold CR
      rw [if_neg (by decide)]
      refine ⟨⟨c3, p31, rfl, ⟨p33, p32.1, fun z => absurd z (by decide)⟩, ⟨p34, p35, fun z => absurd z (by decide)⟩, fun i hi => p36 i hi⟩, fun i hi => ?_⟩
      have key : ∀ i : Nat, i < 96 → inI ((ordT.getD i 0 : Nat) : Int) := by
        intro i hi
        have : ∀ i : Fin 96, ordT.getD i.val 0 ≤ 24 := by decide
        have := this ⟨i, hi⟩
        exact ⟨by omega, by simp only at this; omega⟩
      exact key i hi
/-- the heap when both are made -/
theorem gx_0 {h : Hp} (ht : tabs h) : GX (pth (pth h 4 608) 608 663) := by
  have hi : ∀ a j : Int, 4 ≤ a → a < 663 → pth (pth h 4 608) 608 663 a j = iniV a j := fun a j a0 a1 => by
    unfold pth
    by_cases c : 608 ≤ a ∧ a < 663
    · rw [if_pos c]
    · rw [if_neg c, if_pos (by omega)]
  have ho : ∀ a : Int, a < 4 → pth (pth h 4 608) 608 663 a = h a := fun a a0 => by
    funext j
    unfold pth
    rw [if_neg (by omega), if_neg (by omega)]
  generalize pth (pth h 4 608) 608 663 = H at *
  have l0 : ln ([] : NL) = 0 := rfl
  have okE0 : okE (fun i k => if i = 0 ∧ k = 0 then 1 else 0) := by
    refine ⟨by decide, by decide, by decide, by decide, fun k k0 k1 => ?_, fun j j0 j1 => ?_⟩
    · have k1 : k < 1 := k1
      omega
    · have j1 : j < 0 := j1
      omega
  have okT0 : okT (fun i k => if i = 0 ∧ k = 0 then 1 else 0) [] := ⟨fun i i0 i1 => by rw [l0] at i1; omega, Or.inl rfl, by decide, fun i i0 i1 => by rw [l0] at i1; omega⟩
  have okP0 : okP (fun i k => if i = 0 ∧ k = 0 then 1 else 0) (fun _ => (0, 0, [])) := fun p p0 p1 => ⟨Or.inl rfl, by show ln ([] : NL) ≤ 24; decide, fun z => absurd (show (0 : Int) = 1 from z) (by decide)⟩
  have cn0 : ∀ n : Int, H n 9 = 0 → cN n [] H := fun n z => ⟨z, fun i i0 i1 => by rw [l0] at i1; omega⟩
  refine GX.i (E := fun i k => if i = 0 ∧ k = 0 then 1 else 0) (T := []) (P := fun _ => (0, 0, [])) (A := 0) (B := fun _ => 0) (n := 0) (O := fun _ => 0) (m := 0) (pl := -1) ⟨⟨okE0, ⟨hi 5 4 (by decide) (by decide), hi 5 5 (by decide) (by decide), hi 6 0 (by decide) (by decide), fun k k0 k1 => ?_, fun j j0 j1 => ?_⟩, okT0, ⟨cn0 14 (hi 14 9 (by decide) (by decide)), fun i i0 i1 => ?_, fun i i0 i1 => ?_⟩, okP0, fun p p0 p1 => ⟨?_, cn0 _ ?_, fun z => absurd (show (0 : Int) = 1 from z) (by decide)⟩, ht.to (ho 2 (by decide)) (ho 3 (by decide))⟩, cK_0 (hi 4 13 (by decide) (by decide)), Or.inl (hi 603 6 (by decide) (by decide)), cX_0 (by decide) (hi 10 1 (by decide) (by decide)), cX_0 (by decide) (hi 12 1 (by decide) (by decide)), hi 597 8 (by decide) (by decide)⟩ ⟨⟨okE0, ⟨hi 608 0 (by decide) (by decide), hi 608 2 (by decide) (by decide), fun k k0 k1 => ?_, fun j j0 j1 => ?_⟩, okT0, ⟨⟨hi 608 42 (by decide) (by decide), fun i i0 i1 => ?_⟩, fun i i0 i1 => ?_⟩, okP0, fun p p0 p1 => ⟨?_, fun z => absurd (show (0 : Int) = 1 from z) (by decide)⟩⟩, mK_0 (hi 608 47 (by decide) (by decide)), ?_, mX_0 (hi 608 7 (by decide) (by decide)), ⟨hi 608 76 (by decide) (by decide), by decide, by decide, fun i i0 i1 => by omega⟩, hi 608 23 (by decide) (by decide)⟩
  · have k1 : k < 1 := k1
    omega
  · have j1 : j < 0 := j1
    omega
  · rw [l0] at i1; omega
  · rw [l0] at i1; omega
  · rw [hi _ _ (by omega) (by omega), ini0 (by omega) (by omega) (by omega) (by omega) (by omega) (by omega)]
  · rw [hi _ _ (by omega) (by omega), ini0 (by omega) (by omega) (by omega) (by omega) (by omega) (by omega)]
  · have k1 : k < 1 := k1
    omega
  · have j1 : j < 0 := j1
    omega
  · rw [l0] at i1; omega
  · rw [l0] at i1; omega
  · rw [hi _ _ (by omega) (by omega), ini0 (by omega) (by omega) (by omega) (by omega) (by omega) (by omega)]
  · rw [hi _ _ (by decide) (by decide)]; rfl
section LAW
variable {g : Gl} {p : Program} {e : Env} {s : State} {m : MethodId} {below : List Frame} {meth : Method} {c : Code} {b : Nat}
theorem LZ.conv {pc : Nat} {ls : Lc} {st : List LV} {S1 S2 : Sx} {h : Hp} (hq : Seq S1 S2) (X : LZ g p e s m below meth c b pc ls st S2 h) : LZ g p e s m below meth c b pc ls st S1 h :=
  fun H locs lr hH hZ hl hL hs hk hn => by
    have K := X H locs lr (hH.conv hq) hZ hl hL (fun v hv => okv_s hq.1 (hs v hv)) (fun i v hv => okv_s hq.1 (hk i v hv)) (by rw [← hq.1]; exact hn)
    rw [← hq.1] at K
    exact K
theorem seq_0 (r : Nat → Int → Int → Int) : Seq (pt (609, sclr (pt (5, sclr r 4) 4 608).2 608) 608 663) S0 := by
  refine ⟨rfl, by show (663 : Int) ≤ 663; decide, fun a a0 a1 ht k hk hkd => ?_, fun _ i i0 i1 => ?_⟩
  · have a1 : a < 663 := a1
    have a4 : 4 ≤ a := by
      apply Classical.byContradiction
      intro z
      rcases (show a = 1 ∨ a = 2 ∨ a = 3 by omega) with rfl | rfl | rfl <;> exact absurd ht (by decide)
    by_cases z : 608 ≤ a
    · rw [pt_in z a1]
    · rw [pt_out (by omega)]
      show sclr (pt (5, sclr r 4) 4 608).2 608 _ a _ = _
      rw [sclr_ne (by omega), pt_in a4 (by omega)]
  · rw [pt_out (by decide)]
    show sclr (pt (5, sclr r 4) 4 608).2 608 24 34 i = RC 24 34 i
    rw [sclr_ne (by decide), pt_in (by decide) (by decide)]
set_option maxRecDepth 40000 in
theorem law_entry {r : Nat → Int → Int → Int} {h : Hp} (C : LC g p s m meth c b) (X : LZ g p e s m below meth c b 18 [some (LR 20 1), some (LR 9 4), some (LR 10 608), some (LI 0)] [] S0 (pth (pth h 4 608) 608 663)) : LZ g p e s m below meth c b 0 [some (LR 20 1), none, none, none] [] (4, r) h := by
  refine LZ.run 40 csL C (And.intro (show (SH 4).1 = 9 from rfl) (And.intro (show (4 : Int) + 1 ≤ NX by decide) (And.intro (show (4 : Int) ≠ 0 by decide) (Exists.intro (pt (5, sclr r 4) 4 608) (And.intro (show (5 : Int) ≤ 608 by decide) (And.intro (show (608 : Int) ≤ NX by decide) ?_))))))
  refine k_RuleNet (d := 97) (S := (5, sclr r 4)) rfl (fun k => show sclr r 4 9 4 k = 0 from sclr_at) ?_
  refine And.intro (show (SH 608).1 = 10 from rfl) (And.intro (show (608 : Int) + 1 ≤ NX by decide) (And.intro (show (608 : Int) ≠ 0 by decide) (Exists.intro (pt (609, sclr (pt (5, sclr r 4) 4 608).2 608) 608 663) (And.intro (show (609 : Int) ≤ 663 by decide) (And.intro (show (663 : Int) ≤ NX by decide) ?_)))))
  refine k_Model (d := 99) (S := (609, sclr (pt (5, sclr r 4) 4 608).2 608)) rfl ?_
  exact LZ.conv (seq_0 r) X
end LAW
/-- from the entry, for every script of at most 3072 ints, the law comes to its end with true -/
theorem whole_start {p : Program} {e : Env} {s : State} {m : MethodId} {below : List Frame} {meth : Method} {c : Code} (l : Launch) (hflags : l.flags = flags0) {b L : Nat} {xs : Nat → Int32} (hL : L ≤ 3072) (C0 : lw_At p s m meth c b L xs) : W p l e room_1 s m #[Value.ref b] below meth c s.heap [] 0 0 (lw_Z below #[Value.ref b] s) (entryFrame m ([Value.ref b] : List Value).toArray 4) := by
  obtain ⟨hx, hb, hr, hml, hown, hts, hX, hbl, hlocks, hgv⟩ := C0
  obtain ⟨g, h, eL, eB, e1, gk, kn, sz, tb, hH⟩ := start_g l hL hts hX hbl hgv
  have C : LC g p s m meth c b := ⟨⟨by decide, hx, hb, hml, hown, fun w hw => hts w (List.mem_filter.mp hw).1, gk, kn⟩, hr, hlocks, eB⟩
  have l9 : lnn g 1 ≤ 3072 ∧ 0 ≤ lnn g 1 := by
    have := gk.2.2.2.2
    have e1 : lnn g 1 = (gN g : Int) := rfl
    omega
  have X : LZ g p e s m below meth c b 0 [some (LR 20 1), none, none, none] [] (4, fun _ _ _ => 0) h := law_entry C (law_loop C 3072 0 _ (gx_0 tb) (by decide) (by decide) (by omega))
  have hl := lv_entry ([.ref b]) (n := 4) (Nat.le_of_ble_eq_true rfl)
  rw [lg_entry_eq]
  have ec : cv g (LR 20 1) = .ref b := by
    show rfv g 1 = .ref b
    unfold rfv
    rw [if_neg (by decide), e1]
  have K := X s.heap [] _ (hH _) sz (fun q hq => by cases hq) ⟨hl.1, hl.2.1, fun i v hv => ?_⟩ (fun v hv => by cases hv) (fun i v hv => ?_) (Int.le_refl 4)
  · rw [eL] at K
    exact K
  · match i, hv with
    | 0, hv =>
      have hv : some (LR 20 1) = some v := hv
      cases hv
      rw [ec]
      exact hl.2.2 (0, .ref b) (by simp [lv_args])
    | 1, hv => cases hv
    | 2, hv => cases hv
    | 3, hv => cases hv
    | i + 4, hv => cases hv
  · match i, hv with
    | 0, hv =>
      have hv : some (LR 20 1) = some v := hv
      cases hv
      exact Or.inr ⟨by decide, by show (1 : Int) < 4; decide, rfl⟩
    | 1, hv => cases hv
    | 2, hv => cases hv
    | 3, hv => cases hv
    | i + 4, hv => cases hv
