/-! THE LAW: what its stretches come to (its end out of the skeleton; the stretches by program, wip/whole/gen_law.py) -/
def R_law : String := "RuleNetLaw"
def lw_P (b : Addr) (xs : List Int32) (args : Array Value) (s : State) : Prop := args = #[.ref b] ∧ s.IntsAt b xs ∧ xs.length ≤ 3072 ∧ (Jvm.Cond.and given_1 narrow_1).before args s = true
def lw_Q (_ : Array Value) (s : State) (o : Outcome) (t : State) : Prop := o = .returned (some (.int 1)) ∧ Framed s o t [] 600000 7302250
def lw_Z (below : List Frame) (a : Array Value) (s : State) : State → Prop := fun t => ∃ o, t.status = .running ∧ Ended t below o ∧ lw_Q a s o t
/-- the law's own end, with 1 on the stack, nothing written that was there before, its room as the claim has it -/
theorem lw_ret {p : Program} {l : Launch} {e : Env} {s : State} {m : MethodId} {below : List Frame} {meth : Method} {c : Code} {b : Nat} (hx : p.tables.exec = Jvm.exec) (hb : c.code = code) (hr : meth.sig.returnType = ret) (hlocks : meth.locks = false) {pc : Nat} {H : Heap} {ls : Array Slot} (hdg : decode code pc = .ok (.ireturn, 1)) : W p l e room_1 s m #[Value.ref b] below meth c H [] 600000 7302250 (lw_Z below #[Value.ref b] s) (F0 m pc ls [.int 1]) := by
  intro T hT X
  obtain ⟨fs, hret, hrun, hended, hW, hframe⟩ := X.leave (v := some (.int 1)) (hlocks := hlocks) (fun h => by rw [hr] at h; cases h)
  have hmeth' : T.vm.method? m = some meth := X.method'
  refine ⟨T.setFrames fs, ?_, .returned (some (.int 1)), hrun, hended, rfl, ⟨_, rfl⟩, hW, hframe⟩
  jvm_step X.here [X.here.top, hx, hb, hdg, hmeth', hr, ret, narrow_b1]
  (try refine ⟨rfl, ?_⟩); (try refine ⟨rfl, ?_⟩)
  first | (intro acts; rw [hret _ acts rfl rfl rfl]) | rw [hret _ _ rfl rfl rfl]
  exact Steps.refl _
/-- what holds at the law's entry: the machine, the code, the tables' words (any of lw_tbl by 'hts w (by decide +kernel)'), the script of L ints xs at the cell b, what the Statement gives of the start (any of its parts by flat_of_before) -/
def lw_At (p : Program) (s : State) (m : MethodId) (meth : Method) (c : Code) (b L : Nat) (xs : Nat → Int32) : Prop :=
  p.tables.exec = Jvm.exec ∧ c.code = code ∧ meth.sig.returnType = ret ∧ c.maxLocals = 4 ∧ s.vm.findClass R_law = some m.cls ∧ (∀ w ∈ lw_tbl, w.before #[Value.ref b] s = true) ∧ va_X b L xs s s.heap ∧ b < s.heap.size ∧ meth.locks = false ∧ (Jvm.Cond.and given_1 narrow_1).before #[Value.ref b] s = true
/-- in the law the machine at pc comes to its end -/
def LZ (g : Gl) (p : Program) (e : Env) (s : State) (m : MethodId) (below : List Frame) (meth : Method) (c : Code) (b : Nat) (pc : Nat) (ls : Lc) (st : List LV) (S : Sx) (h : Hp) : Prop := LJ g p e room_1 s m #[Value.ref b] below meth c 4 4 (lw_Z below #[Value.ref b] s) pc ls st S h
def LC (g : Gl) (p : Program) (s : State) (m : MethodId) (meth : Method) (c : Code) (b : Nat) : Prop := Cx g 13 p s m #[Value.ref b] c code 4 ∧ meth.sig.returnType = ret ∧ meth.locks = false ∧ gB g = s.heap.size
def RtL : LV → Sx → Hp → Prop := fun r S _ => r = LI 1 ∧ S = S0
def csL : List (Nat × List Bool) := [(18, [true, true, true, true]), (164, [true, true, true, true]), (187, [true, true, true, true]), (220, [true, true, true, true]), (279, [true, true, true, true]), (342, [true, true, true, true]), (365, [true, true, true, true]), (388, [true, true, true, true]), (411, [true, true, true, true]), (424, [true, true, true, true]), (447, [true, true, true, true]), (460, [true, true, true, true]), (483, [true, true, true, true]), (516, [true, true, true, true]), (550, [true, true, true, true]), (583, [true, true, true, true]), (596, [true, true, true, true]), (619, [true, true, true, true]), (642, [true, true, true, true]), (685, [true, true, true, true]), (718, [true, true, true, true]), (751, [true, true, true, true]), (784, [true, true, true, true]), (807, [true, true, true, true]), (840, [true, true, true, true]), (873, [true, true, true, true]), (906, [true, true, true, true]), (929, [true, true, true, true]), (952, [true, true, true, true]), (975, [true, true, true, true]), (988, [true, true, true, true])]
section LAW
variable {g : Gl} {p : Program} {e : Env} {s : State} {m : MethodId} {below : List Frame} {meth : Method} {c : Code} {b : Nat}
theorem LZ.ret (C : LC g p s m meth c b) : RetOk g p e room_1 s m #[Value.ref b] below meth c code 4 4 (lw_Z below #[Value.ref b] s) 9 RtL := by
  intro pc ls S h
  refine ⟨fun x hx hR hd => ?_, fun x hx => absurd hx (by decide), fun r hx => absurd hx (by decide), fun hx => absurd hx (by decide)⟩
  obtain ⟨e1, e2⟩ := hR
  have e1 : x = 1 := Sum.inl.inj e1
  subst e1
  subst e2
  intro H locs lr hH hZ hl hL hs hk hn
  refine va_forget (fun q hq => by rw [← C.2.2.2]; exact hl q hq) (W.widen (k := 600000) (n := 7302250) (Nat.le_of_ble_eq_true rfl) (Nat.le_of_ble_eq_true rfl) ?_)
  exact lw_ret C.1.2.1 C.1.2.2.1 C.2.1 C.2.2.1 hd
theorem LZ.run (n : Nat) (cs : List (Nat × List Bool)) (C : LC g p s m meth c b) {pc : Nat} {ls : Lc} {st : List LV} {S : Sx} {h : Hp} (hw : w0 g 100 13 9 false NX RtL cd13_law cs (LZ g p e s m below meth c b) n pc ls st S h) : LZ g p e s m below meth c b pc ls st S h :=
  w0_sound (d := 100) (nx1 := NX) C.1 (fun z => Bool.noConfusion z) (Nat.le_of_ble_eq_true rfl) (Nat.le_of_ble_eq_true rfl) ⟨Nat.le_of_ble_eq_true rfl, Nat.le_of_ble_eq_true rfl⟩ (LZ.ret C) k13_law (fun _ _ _ _ _ z => z) hw

set_option maxRecDepth 40000 in
theorem v13_law_18 {y3 : Int} {h : Hp} (C : LC g p s m meth c b) (v0 : (((w32 ((lnn g 1) - 6)) < y3 → True) ∧
 (¬ (w32 ((lnn g 1) - 6)) < y3 → 0 ≤ y3 ∧ y3 < lnn g 1 ∧ ((((iandI (h 1 y3) 31) < 0 ∨ 28 < (iandI (h 1 y3) 31)) → LZ g p e s m below meth c b 988 [some (LR 20 1), some (LR 9 4), some (LR 10 608), some (LI y3)] [] S0 h) ∧
 ((iandI (h 1 y3) 31) = 0 → LZ g p e s m below meth c b 164 [some (LR 20 1), some (LR 9 4), some (LR 10 608), some (LI y3)] [] S0 h) ∧
 ((iandI (h 1 y3) 31) = 1 → LZ g p e s m below meth c b 187 [some (LR 20 1), some (LR 9 4), some (LR 10 608), some (LI y3)] [] S0 h) ∧
 ((iandI (h 1 y3) 31) = 2 → LZ g p e s m below meth c b 220 [some (LR 20 1), some (LR 9 4), some (LR 10 608), some (LI y3)] [] S0 h) ∧
 ((iandI (h 1 y3) 31) = 3 → LZ g p e s m below meth c b 279 [some (LR 20 1), some (LR 9 4), some (LR 10 608), some (LI y3)] [] S0 h) ∧
 ((iandI (h 1 y3) 31) = 4 → LZ g p e s m below meth c b 342 [some (LR 20 1), some (LR 9 4), some (LR 10 608), some (LI y3)] [] S0 h) ∧
 ((iandI (h 1 y3) 31) = 5 → LZ g p e s m below meth c b 365 [some (LR 20 1), some (LR 9 4), some (LR 10 608), some (LI y3)] [] S0 h) ∧
 ((iandI (h 1 y3) 31) = 6 → LZ g p e s m below meth c b 388 [some (LR 20 1), some (LR 9 4), some (LR 10 608), some (LI y3)] [] S0 h) ∧
 ((iandI (h 1 y3) 31) = 7 → LZ g p e s m below meth c b 411 [some (LR 20 1), some (LR 9 4), some (LR 10 608), some (LI y3)] [] S0 h) ∧
 ((iandI (h 1 y3) 31) = 8 → LZ g p e s m below meth c b 424 [some (LR 20 1), some (LR 9 4), some (LR 10 608), some (LI y3)] [] S0 h) ∧
 ((iandI (h 1 y3) 31) = 9 → LZ g p e s m below meth c b 447 [some (LR 20 1), some (LR 9 4), some (LR 10 608), some (LI y3)] [] S0 h) ∧
 ((iandI (h 1 y3) 31) = 10 → LZ g p e s m below meth c b 460 [some (LR 20 1), some (LR 9 4), some (LR 10 608), some (LI y3)] [] S0 h) ∧
 ((iandI (h 1 y3) 31) = 11 → LZ g p e s m below meth c b 483 [some (LR 20 1), some (LR 9 4), some (LR 10 608), some (LI y3)] [] S0 h) ∧
 ((iandI (h 1 y3) 31) = 12 → LZ g p e s m below meth c b 516 [some (LR 20 1), some (LR 9 4), some (LR 10 608), some (LI y3)] [] S0 h) ∧
 ((iandI (h 1 y3) 31) = 13 → LZ g p e s m below meth c b 550 [some (LR 20 1), some (LR 9 4), some (LR 10 608), some (LI y3)] [] S0 h) ∧
 ((iandI (h 1 y3) 31) = 14 → LZ g p e s m below meth c b 583 [some (LR 20 1), some (LR 9 4), some (LR 10 608), some (LI y3)] [] S0 h) ∧
 ((iandI (h 1 y3) 31) = 15 → LZ g p e s m below meth c b 596 [some (LR 20 1), some (LR 9 4), some (LR 10 608), some (LI y3)] [] S0 h) ∧
 ((iandI (h 1 y3) 31) = 16 → LZ g p e s m below meth c b 619 [some (LR 20 1), some (LR 9 4), some (LR 10 608), some (LI y3)] [] S0 h) ∧
 ((iandI (h 1 y3) 31) = 17 → LZ g p e s m below meth c b 642 [some (LR 20 1), some (LR 9 4), some (LR 10 608), some (LI y3)] [] S0 h) ∧
 ((iandI (h 1 y3) 31) = 18 → LZ g p e s m below meth c b 685 [some (LR 20 1), some (LR 9 4), some (LR 10 608), some (LI y3)] [] S0 h) ∧
 ((iandI (h 1 y3) 31) = 19 → LZ g p e s m below meth c b 718 [some (LR 20 1), some (LR 9 4), some (LR 10 608), some (LI y3)] [] S0 h) ∧
 ((iandI (h 1 y3) 31) = 20 → LZ g p e s m below meth c b 751 [some (LR 20 1), some (LR 9 4), some (LR 10 608), some (LI y3)] [] S0 h) ∧
 ((iandI (h 1 y3) 31) = 21 → LZ g p e s m below meth c b 784 [some (LR 20 1), some (LR 9 4), some (LR 10 608), some (LI y3)] [] S0 h) ∧
 ((iandI (h 1 y3) 31) = 22 → LZ g p e s m below meth c b 807 [some (LR 20 1), some (LR 9 4), some (LR 10 608), some (LI y3)] [] S0 h) ∧
 ((iandI (h 1 y3) 31) = 23 → LZ g p e s m below meth c b 840 [some (LR 20 1), some (LR 9 4), some (LR 10 608), some (LI y3)] [] S0 h) ∧
 ((iandI (h 1 y3) 31) = 24 → LZ g p e s m below meth c b 873 [some (LR 20 1), some (LR 9 4), some (LR 10 608), some (LI y3)] [] S0 h) ∧
 ((iandI (h 1 y3) 31) = 25 → LZ g p e s m below meth c b 906 [some (LR 20 1), some (LR 9 4), some (LR 10 608), some (LI y3)] [] S0 h) ∧
 ((iandI (h 1 y3) 31) = 26 → LZ g p e s m below meth c b 929 [some (LR 20 1), some (LR 9 4), some (LR 10 608), some (LI y3)] [] S0 h) ∧
 ((iandI (h 1 y3) 31) = 27 → LZ g p e s m below meth c b 952 [some (LR 20 1), some (LR 9 4), some (LR 10 608), some (LI y3)] [] S0 h) ∧
 ((iandI (h 1 y3) 31) = 28 → LZ g p e s m below meth c b 975 [some (LR 20 1), some (LR 9 4), some (LR 10 608), some (LI y3)] [] S0 h))))) : LZ g p e s m below meth c b 18 [some (LR 20 1), some (LR 9 4), some (LR 10 608), some (LI y3)] [] S0 h :=
 LZ.run 40 csL C (And.intro (show (1 : Int) ≠ 0 by decide) (And.intro (fun c1 => And.intro (Or.inr rfl) (And.intro rfl rfl)) (fun c1 => And.intro (show (1 : Int) ≠ 0 by decide) (And.intro (v0.2 c1).1 (And.intro (v0.2 c1).2.1 (And.intro (fun c2 => ((v0.2 c1).2.2.1 c2)) (And.intro (fun c3 => ((v0.2 c1).2.2.2.1 c3)) (And.intro (fun c4 => ((v0.2 c1).2.2.2.2.1 c4)) (And.intro (fun c5 => ((v0.2 c1).2.2.2.2.2.1 c5)) (And.intro (fun c6 => ((v0.2 c1).2.2.2.2.2.2.1 c6)) (And.intro (fun c7 => ((v0.2 c1).2.2.2.2.2.2.2.1 c7)) (And.intro (fun c8 => ((v0.2 c1).2.2.2.2.2.2.2.2.1 c8)) (And.intro (fun c9 => ((v0.2 c1).2.2.2.2.2.2.2.2.2.1 c9)) (And.intro (fun c10 => ((v0.2 c1).2.2.2.2.2.2.2.2.2.2.1 c10)) (And.intro (fun c11 => ((v0.2 c1).2.2.2.2.2.2.2.2.2.2.2.1 c11)) (And.intro (fun c12 => ((v0.2 c1).2.2.2.2.2.2.2.2.2.2.2.2.1 c12)) (And.intro (fun c13 => ((v0.2 c1).2.2.2.2.2.2.2.2.2.2.2.2.2.1 c13)) (And.intro (fun c14 => ((v0.2 c1).2.2.2.2.2.2.2.2.2.2.2.2.2.2.1 c14)) (And.intro (fun c15 => ((v0.2 c1).2.2.2.2.2.2.2.2.2.2.2.2.2.2.2.1 c15)) (And.intro (fun c16 => ((v0.2 c1).2.2.2.2.2.2.2.2.2.2.2.2.2.2.2.2.1 c16)) (And.intro (fun c17 => ((v0.2 c1).2.2.2.2.2.2.2.2.2.2.2.2.2.2.2.2.2.1 c17)) (And.intro (fun c18 => ((v0.2 c1).2.2.2.2.2.2.2.2.2.2.2.2.2.2.2.2.2.2.1 c18)) (And.intro (fun c19 => ((v0.2 c1).2.2.2.2.2.2.2.2.2.2.2.2.2.2.2.2.2.2.2.1 c19)) (And.intro (fun c20 => ((v0.2 c1).2.2.2.2.2.2.2.2.2.2.2.2.2.2.2.2.2.2.2.2.1 c20)) (And.intro (fun c21 => ((v0.2 c1).2.2.2.2.2.2.2.2.2.2.2.2.2.2.2.2.2.2.2.2.2.1 c21)) (And.intro (fun c22 => ((v0.2 c1).2.2.2.2.2.2.2.2.2.2.2.2.2.2.2.2.2.2.2.2.2.2.1 c22)) (And.intro (fun c23 => ((v0.2 c1).2.2.2.2.2.2.2.2.2.2.2.2.2.2.2.2.2.2.2.2.2.2.2.1 c23)) (And.intro (fun c24 => ((v0.2 c1).2.2.2.2.2.2.2.2.2.2.2.2.2.2.2.2.2.2.2.2.2.2.2.2.1 c24)) (And.intro (fun c25 => ((v0.2 c1).2.2.2.2.2.2.2.2.2.2.2.2.2.2.2.2.2.2.2.2.2.2.2.2.2.1 c25)) (And.intro (fun c26 => ((v0.2 c1).2.2.2.2.2.2.2.2.2.2.2.2.2.2.2.2.2.2.2.2.2.2.2.2.2.2.1 c26)) (And.intro (fun c27 => ((v0.2 c1).2.2.2.2.2.2.2.2.2.2.2.2.2.2.2.2.2.2.2.2.2.2.2.2.2.2.2.1 c27)) (And.intro (fun c28 => ((v0.2 c1).2.2.2.2.2.2.2.2.2.2.2.2.2.2.2.2.2.2.2.2.2.2.2.2.2.2.2.2.1 c28)) (And.intro (fun c29 => ((v0.2 c1).2.2.2.2.2.2.2.2.2.2.2.2.2.2.2.2.2.2.2.2.2.2.2.2.2.2.2.2.2.1 c29)) (And.intro (fun c30 => ((v0.2 c1).2.2.2.2.2.2.2.2.2.2.2.2.2.2.2.2.2.2.2.2.2.2.2.2.2.2.2.2.2.2.1 c30)) (And.intro (fun c31 => ((v0.2 c1).2.2.2.2.2.2.2.2.2.2.2.2.2.2.2.2.2.2.2.2.2.2.2.2.2.2.2.2.2.2.2 c31)) (trivial))))))))))))))))))))))))))))))))))))
set_option maxRecDepth 40000 in
theorem v13_law_164 {y3 : Int} {h : Hp} (C : LC g p s m meth c b) (v0 : 0 ≤ ((w32 (y3 + 1))) ∧ ((w32 (y3 + 1))) < lnn g 1 ∧ Good g 100 i9_kind [LR 9 4, LI (h 1 (w32 (y3 + 1)))] S0 h S0 (retI (fun r3 h1 =>
 Good g 100 i10_kind [LR 10 608, LI (h1 1 (w32 (y3 + 1)))] S0 h1 S0 (retI (fun r6 h4 =>
 ((r3 = r6 → LZ g p e s m below meth c b 988 [some (LR 20 1), some (LR 9 4), some (LR 10 608), some (LI y3)] [] S0 h4) ∧
 (¬ r3 = r6 → False))))))) : LZ g p e s m below meth c b 164 [some (LR 20 1), some (LR 9 4), some (LR 10 608), some (LI y3)] [] S0 h :=
 LZ.run 40 csL C (And.intro (show (1 : Int) ≠ 0 by decide) (And.intro v0.1 (And.intro v0.2.1 (And.intro (show (4 : Int) ≠ 0 by decide) (And.intro (Int.le_refl _) (Good.mI v0.2.2 (fun r3 h1 v2 => And.intro (show (1 : Int) ≠ 0 by decide) (And.intro v0.1 (And.intro v0.2.1 (And.intro (show (608 : Int) ≠ 0 by decide) (And.intro (Int.le_refl _) (Good.mI v2 (fun r6 h4 v5 => And.intro (fun c7 => (v5.1 c7)) (fun c7 => And.intro (Or.inl rfl) (False.elim (v5.2 c7))))))))))))))))
set_option maxRecDepth 40000 in
theorem v13_law_187 {y3 : Int} {h : Hp} (C : LC g p s m meth c b) (v0 : 0 ≤ ((w32 (y3 + 1))) ∧ ((w32 (y3 + 1))) < lnn g 1 ∧ 0 ≤ ((w32 (y3 + 2))) ∧ ((w32 (y3 + 2))) < lnn g 1 ∧ Good g 100 i9_isUnder [LR 9 4, LI (h 1 (w32 (y3 + 1))), LI (h 1 (w32 (y3 + 2)))] S0 h S0 (retI (fun r3 h1 =>
 Good g 100 i10_isUnder [LR 10 608, LI (h1 1 (w32 (y3 + 1))), LI (h1 1 (w32 (y3 + 2)))] S0 h1 S0 (retI (fun r6 h4 =>
 ((r3 = r6 → LZ g p e s m below meth c b 988 [some (LR 20 1), some (LR 9 4), some (LR 10 608), some (LI y3)] [] S0 h4) ∧
 (¬ r3 = r6 → False))))))) : LZ g p e s m below meth c b 187 [some (LR 20 1), some (LR 9 4), some (LR 10 608), some (LI y3)] [] S0 h :=
 LZ.run 40 csL C (And.intro (show (1 : Int) ≠ 0 by decide) (And.intro v0.1 (And.intro v0.2.1 (And.intro (show (1 : Int) ≠ 0 by decide) (And.intro v0.2.2.1 (And.intro v0.2.2.2.1 (And.intro (show (4 : Int) ≠ 0 by decide) (And.intro (Int.le_refl _) (Good.mI v0.2.2.2.2 (fun r3 h1 v2 => And.intro (show (1 : Int) ≠ 0 by decide) (And.intro v0.1 (And.intro v0.2.1 (And.intro (show (1 : Int) ≠ 0 by decide) (And.intro v0.2.2.1 (And.intro v0.2.2.2.1 (And.intro (show (608 : Int) ≠ 0 by decide) (And.intro (Int.le_refl _) (Good.mI v2 (fun r6 h4 v5 => And.intro (fun c7 => (v5.1 c7)) (fun c7 => And.intro (Or.inl rfl) (False.elim (v5.2 c7))))))))))))))))))))))
set_option maxRecDepth 40000 in
theorem v13_law_220 {y3 : Int} {h : Hp} (C : LC g p s m meth c b) (v0 : 0 ≤ ((w32 (y3 + 1))) ∧ ((w32 (y3 + 1))) < lnn g 1 ∧ 0 ≤ ((w32 (y3 + 2))) ∧ ((w32 (y3 + 2))) < lnn g 1 ∧ 0 ≤ ((w32 (y3 + 3))) ∧ ((w32 (y3 + 3))) < lnn g 1 ∧ (((h 1 (w32 (y3 + 3))) = 0 → Good g 100 i9_head [LR 9 4, LI (h 1 (w32 (y3 + 1))), LI (h 1 (w32 (y3 + 2))), LI 0] S0 h S0 (retI (fun r4 h2 =>
 (((h2 1 (w32 (y3 + 3))) = 0 → Good g 100 i10_head [LR 10 608, LI (h2 1 (w32 (y3 + 1))), LI (h2 1 (w32 (y3 + 2))), LI 0] S0 h2 S0 (retI (fun r8 h6 =>
 ((r4 = r8 → LZ g p e s m below meth c b 988 [some (LR 20 1), some (LR 9 4), some (LR 10 608), some (LI y3)] [] S0 h6) ∧
 (¬ r4 = r8 → False))))) ∧
 (¬ (h2 1 (w32 (y3 + 3))) = 0 → Good g 100 i10_head [LR 10 608, LI (h2 1 (w32 (y3 + 1))), LI (h2 1 (w32 (y3 + 2))), LI 1] S0 h2 S0 (retI (fun r12 h10 =>
 ((r4 = r12 → LZ g p e s m below meth c b 988 [some (LR 20 1), some (LR 9 4), some (LR 10 608), some (LI y3)] [] S0 h10) ∧
 (¬ r4 = r12 → False))))))))) ∧
 (¬ (h 1 (w32 (y3 + 3))) = 0 → Good g 100 i9_head [LR 9 4, LI (h 1 (w32 (y3 + 1))), LI (h 1 (w32 (y3 + 2))), LI 1] S0 h S0 (retI (fun r16 h14 =>
 (((h14 1 (w32 (y3 + 3))) = 0 → Good g 100 i10_head [LR 10 608, LI (h14 1 (w32 (y3 + 1))), LI (h14 1 (w32 (y3 + 2))), LI 0] S0 h14 S0 (retI (fun r20 h18 =>
 ((r16 = r20 → LZ g p e s m below meth c b 988 [some (LR 20 1), some (LR 9 4), some (LR 10 608), some (LI y3)] [] S0 h18) ∧
 (¬ r16 = r20 → False))))) ∧
 (¬ (h14 1 (w32 (y3 + 3))) = 0 → Good g 100 i10_head [LR 10 608, LI (h14 1 (w32 (y3 + 1))), LI (h14 1 (w32 (y3 + 2))), LI 1] S0 h14 S0 (retI (fun r24 h22 =>
 ((r16 = r24 → LZ g p e s m below meth c b 988 [some (LR 20 1), some (LR 9 4), some (LR 10 608), some (LI y3)] [] S0 h22) ∧
 (¬ r16 = r24 → False))))))))))) : LZ g p e s m below meth c b 220 [some (LR 20 1), some (LR 9 4), some (LR 10 608), some (LI y3)] [] S0 h :=
 LZ.run 40 csL C (And.intro (show (1 : Int) ≠ 0 by decide) (And.intro v0.1 (And.intro v0.2.1 (And.intro (show (1 : Int) ≠ 0 by decide) (And.intro v0.2.2.1 (And.intro v0.2.2.2.1 (And.intro (show (1 : Int) ≠ 0 by decide) (And.intro v0.2.2.2.2.1 (And.intro v0.2.2.2.2.2.1 (And.intro (fun c1 => And.intro (show (4 : Int) ≠ 0 by decide) (And.intro (Int.le_refl _) (Good.mI (v0.2.2.2.2.2.2.1 c1) (fun r4 h2 v3 => And.intro (show (1 : Int) ≠ 0 by decide) (And.intro v0.1 (And.intro v0.2.1 (And.intro (show (1 : Int) ≠ 0 by decide) (And.intro v0.2.2.1 (And.intro v0.2.2.2.1 (And.intro (show (1 : Int) ≠ 0 by decide) (And.intro v0.2.2.2.2.1 (And.intro v0.2.2.2.2.2.1 (And.intro (fun c5 => And.intro (show (608 : Int) ≠ 0 by decide) (And.intro (Int.le_refl _) (Good.mI (v3.1 c5) (fun r8 h6 v7 => And.intro (fun c9 => (v7.1 c9)) (fun c9 => And.intro (Or.inl rfl) (False.elim (v7.2 c9))))))) (fun c5 => And.intro (show (608 : Int) ≠ 0 by decide) (And.intro (Int.le_refl _) (Good.mI (v3.2 c5) (fun r12 h10 v11 => And.intro (fun c13 => (v11.1 c13)) (fun c13 => And.intro (Or.inl rfl) (False.elim (v11.2 c13)))))))))))))))))))) (fun c1 => And.intro (show (4 : Int) ≠ 0 by decide) (And.intro (Int.le_refl _) (Good.mI (v0.2.2.2.2.2.2.2 c1) (fun r16 h14 v15 => And.intro (show (1 : Int) ≠ 0 by decide) (And.intro v0.1 (And.intro v0.2.1 (And.intro (show (1 : Int) ≠ 0 by decide) (And.intro v0.2.2.1 (And.intro v0.2.2.2.1 (And.intro (show (1 : Int) ≠ 0 by decide) (And.intro v0.2.2.2.2.1 (And.intro v0.2.2.2.2.2.1 (And.intro (fun c17 => And.intro (show (608 : Int) ≠ 0 by decide) (And.intro (Int.le_refl _) (Good.mI (v15.1 c17) (fun r20 h18 v19 => And.intro (fun c21 => (v19.1 c21)) (fun c21 => And.intro (Or.inl rfl) (False.elim (v19.2 c21))))))) (fun c17 => And.intro (show (608 : Int) ≠ 0 by decide) (And.intro (Int.le_refl _) (Good.mI (v15.2 c17) (fun r24 h22 v23 => And.intro (fun c25 => (v23.1 c25)) (fun c25 => And.intro (Or.inl rfl) (False.elim (v23.2 c25))))))))))))))))))))))))))))))
set_option maxRecDepth 40000 in
theorem v13_law_279 {y3 : Int} {h : Hp} (C : LC g p s m meth c b) (v0 : 0 ≤ ((w32 (y3 + 1))) ∧ ((w32 (y3 + 1))) < lnn g 1 ∧ 0 ≤ ((w32 (y3 + 2))) ∧ ((w32 (y3 + 2))) < lnn g 1 ∧ 0 ≤ ((w32 (y3 + 3))) ∧ ((w32 (y3 + 3))) < lnn g 1 ∧ 0 ≤ ((w32 (y3 + 4))) ∧ ((w32 (y3 + 4))) < lnn g 1 ∧ 0 ≤ ((w32 (y3 + 5))) ∧ ((w32 (y3 + 5))) < lnn g 1 ∧ Good g 100 i9_feed [LR 9 4, LI (h 1 (w32 (y3 + 1))), LI (h 1 (w32 (y3 + 2))), LI (h 1 (w32 (y3 + 3))), LI (h 1 (w32 (y3 + 4))), LI (h 1 (w32 (y3 + 5)))] S0 h S0 (retI (fun r3 h1 =>
 Good g 100 i10_feed [LR 10 608, LI (h1 1 (w32 (y3 + 1))), LI (h1 1 (w32 (y3 + 2))), LI (h1 1 (w32 (y3 + 3))), LI (h1 1 (w32 (y3 + 4))), LI (h1 1 (w32 (y3 + 5)))] S0 h1 S0 (retI (fun r6 h4 =>
 ((r3 = r6 → LZ g p e s m below meth c b 988 [some (LR 20 1), some (LR 9 4), some (LR 10 608), some (LI y3)] [] S0 h4) ∧
 (¬ r3 = r6 → False))))))) : LZ g p e s m below meth c b 279 [some (LR 20 1), some (LR 9 4), some (LR 10 608), some (LI y3)] [] S0 h :=
 LZ.run 40 csL C (And.intro (show (1 : Int) ≠ 0 by decide) (And.intro v0.1 (And.intro v0.2.1 (And.intro (show (1 : Int) ≠ 0 by decide) (And.intro v0.2.2.1 (And.intro v0.2.2.2.1 (And.intro (show (1 : Int) ≠ 0 by decide) (And.intro v0.2.2.2.2.1 (And.intro v0.2.2.2.2.2.1 (And.intro (show (1 : Int) ≠ 0 by decide) (And.intro v0.2.2.2.2.2.2.1 (And.intro v0.2.2.2.2.2.2.2.1 (And.intro (show (1 : Int) ≠ 0 by decide) (And.intro v0.2.2.2.2.2.2.2.2.1 (And.intro v0.2.2.2.2.2.2.2.2.2.1 (And.intro (show (4 : Int) ≠ 0 by decide) (And.intro (Int.le_refl _) (Good.mI v0.2.2.2.2.2.2.2.2.2.2 (fun r3 h1 v2 => And.intro (show (1 : Int) ≠ 0 by decide) (And.intro v0.1 (And.intro v0.2.1 (And.intro (show (1 : Int) ≠ 0 by decide) (And.intro v0.2.2.1 (And.intro v0.2.2.2.1 (And.intro (show (1 : Int) ≠ 0 by decide) (And.intro v0.2.2.2.2.1 (And.intro v0.2.2.2.2.2.1 (And.intro (show (1 : Int) ≠ 0 by decide) (And.intro v0.2.2.2.2.2.2.1 (And.intro v0.2.2.2.2.2.2.2.1 (And.intro (show (1 : Int) ≠ 0 by decide) (And.intro v0.2.2.2.2.2.2.2.2.1 (And.intro v0.2.2.2.2.2.2.2.2.2.1 (And.intro (show (608 : Int) ≠ 0 by decide) (And.intro (Int.le_refl _) (Good.mI v2 (fun r6 h4 v5 => And.intro (fun c7 => (v5.1 c7)) (fun c7 => And.intro (Or.inl rfl) (False.elim (v5.2 c7))))))))))))))))))))))))))))))))))))))))
set_option maxRecDepth 40000 in
theorem v13_law_342 {y3 : Int} {h : Hp} (C : LC g p s m meth c b) (v0 : 0 ≤ ((w32 (y3 + 1))) ∧ ((w32 (y3 + 1))) < lnn g 1 ∧ Good g 100 i9_cut [LR 9 4, LI (h 1 (w32 (y3 + 1)))] S0 h S0 (retI (fun r3 h1 =>
 Good g 100 i10_cut [LR 10 608, LI (h1 1 (w32 (y3 + 1)))] S0 h1 S0 (retI (fun r6 h4 =>
 ((r3 = r6 → LZ g p e s m below meth c b 988 [some (LR 20 1), some (LR 9 4), some (LR 10 608), some (LI y3)] [] S0 h4) ∧
 (¬ r3 = r6 → False))))))) : LZ g p e s m below meth c b 342 [some (LR 20 1), some (LR 9 4), some (LR 10 608), some (LI y3)] [] S0 h :=
 LZ.run 40 csL C (And.intro (show (1 : Int) ≠ 0 by decide) (And.intro v0.1 (And.intro v0.2.1 (And.intro (show (4 : Int) ≠ 0 by decide) (And.intro (Int.le_refl _) (Good.mI v0.2.2 (fun r3 h1 v2 => And.intro (show (1 : Int) ≠ 0 by decide) (And.intro v0.1 (And.intro v0.2.1 (And.intro (show (608 : Int) ≠ 0 by decide) (And.intro (Int.le_refl _) (Good.mI v2 (fun r6 h4 v5 => And.intro (fun c7 => (v5.1 c7)) (fun c7 => And.intro (Or.inl rfl) (False.elim (v5.2 c7))))))))))))))))
set_option maxRecDepth 40000 in
theorem v13_law_365 {y3 : Int} {h : Hp} (C : LC g p s m meth c b) (v0 : 0 ≤ ((w32 (y3 + 1))) ∧ ((w32 (y3 + 1))) < lnn g 1 ∧ Good g 100 i9_pattern [LR 9 4, LI (h 1 (w32 (y3 + 1)))] S0 h S0 (retI (fun r3 h1 =>
 Good g 100 i10_pattern [LR 10 608, LI (h1 1 (w32 (y3 + 1)))] S0 h1 S0 (retI (fun r6 h4 =>
 ((r3 = r6 → LZ g p e s m below meth c b 988 [some (LR 20 1), some (LR 9 4), some (LR 10 608), some (LI y3)] [] S0 h4) ∧
 (¬ r3 = r6 → False))))))) : LZ g p e s m below meth c b 365 [some (LR 20 1), some (LR 9 4), some (LR 10 608), some (LI y3)] [] S0 h :=
 LZ.run 40 csL C (And.intro (show (1 : Int) ≠ 0 by decide) (And.intro v0.1 (And.intro v0.2.1 (And.intro (show (4 : Int) ≠ 0 by decide) (And.intro (Int.le_refl _) (Good.mI v0.2.2 (fun r3 h1 v2 => And.intro (show (1 : Int) ≠ 0 by decide) (And.intro v0.1 (And.intro v0.2.1 (And.intro (show (608 : Int) ≠ 0 by decide) (And.intro (Int.le_refl _) (Good.mI v2 (fun r6 h4 v5 => And.intro (fun c7 => (v5.1 c7)) (fun c7 => And.intro (Or.inl rfl) (False.elim (v5.2 c7))))))))))))))))
set_option maxRecDepth 40000 in
theorem v13_law_388 {y3 : Int} {h : Hp} (C : LC g p s m meth c b) (v0 : 0 ≤ ((w32 (y3 + 1))) ∧ ((w32 (y3 + 1))) < lnn g 1 ∧ Good g 100 i9_drop [LR 9 4, LI (h 1 (w32 (y3 + 1)))] S0 h S0 (retI (fun r3 h1 =>
 Good g 100 i10_drop [LR 10 608, LI (h1 1 (w32 (y3 + 1)))] S0 h1 S0 (retI (fun r6 h4 =>
 ((r3 = r6 → LZ g p e s m below meth c b 988 [some (LR 20 1), some (LR 9 4), some (LR 10 608), some (LI y3)] [] S0 h4) ∧
 (¬ r3 = r6 → False))))))) : LZ g p e s m below meth c b 388 [some (LR 20 1), some (LR 9 4), some (LR 10 608), some (LI y3)] [] S0 h :=
 LZ.run 40 csL C (And.intro (show (1 : Int) ≠ 0 by decide) (And.intro v0.1 (And.intro v0.2.1 (And.intro (show (4 : Int) ≠ 0 by decide) (And.intro (Int.le_refl _) (Good.mI v0.2.2 (fun r3 h1 v2 => And.intro (show (1 : Int) ≠ 0 by decide) (And.intro v0.1 (And.intro v0.2.1 (And.intro (show (608 : Int) ≠ 0 by decide) (And.intro (Int.le_refl _) (Good.mI v2 (fun r6 h4 v5 => And.intro (fun c7 => (v5.1 c7)) (fun c7 => And.intro (Or.inl rfl) (False.elim (v5.2 c7))))))))))))))))
set_option maxRecDepth 40000 in
theorem v13_law_411 {y3 : Int} {h : Hp} (C : LC g p s m meth c b) (v0 : Good g 100 i9_tree [LR 9 4] S0 h S0 (retI (fun r3 h1 =>
 Good g 100 i10_tree [LR 10 608] S0 h1 S0 (retI (fun r6 h4 =>
 ((r3 = r6 → LZ g p e s m below meth c b 988 [some (LR 20 1), some (LR 9 4), some (LR 10 608), some (LI y3)] [] S0 h4) ∧
 (¬ r3 = r6 → False))))))) : LZ g p e s m below meth c b 411 [some (LR 20 1), some (LR 9 4), some (LR 10 608), some (LI y3)] [] S0 h :=
 LZ.run 40 csL C (And.intro (show (4 : Int) ≠ 0 by decide) (And.intro (Int.le_refl _) (Good.mI v0 (fun r3 h1 v2 => And.intro (show (608 : Int) ≠ 0 by decide) (And.intro (Int.le_refl _) (Good.mI v2 (fun r6 h4 v5 => And.intro (fun c7 => (v5.1 c7)) (fun c7 => And.intro (Or.inl rfl) (False.elim (v5.2 c7))))))))))
set_option maxRecDepth 40000 in
theorem v13_law_424 {y3 : Int} {h : Hp} (C : LC g p s m meth c b) (v0 : 0 ≤ ((w32 (y3 + 1))) ∧ ((w32 (y3 + 1))) < lnn g 1 ∧ Good g 100 i9_change [LR 9 4, LI (h 1 (w32 (y3 + 1)))] S0 h S0 (retI (fun r3 h1 =>
 Good g 100 i10_change [LR 10 608, LI (h1 1 (w32 (y3 + 1)))] S0 h1 S0 (retI (fun r6 h4 =>
 ((r3 = r6 → LZ g p e s m below meth c b 988 [some (LR 20 1), some (LR 9 4), some (LR 10 608), some (LI y3)] [] S0 h4) ∧
 (¬ r3 = r6 → False))))))) : LZ g p e s m below meth c b 424 [some (LR 20 1), some (LR 9 4), some (LR 10 608), some (LI y3)] [] S0 h :=
 LZ.run 40 csL C (And.intro (show (1 : Int) ≠ 0 by decide) (And.intro v0.1 (And.intro v0.2.1 (And.intro (show (4 : Int) ≠ 0 by decide) (And.intro (Int.le_refl _) (Good.mI v0.2.2 (fun r3 h1 v2 => And.intro (show (1 : Int) ≠ 0 by decide) (And.intro v0.1 (And.intro v0.2.1 (And.intro (show (608 : Int) ≠ 0 by decide) (And.intro (Int.le_refl _) (Good.mI v2 (fun r6 h4 v5 => And.intro (fun c7 => (v5.1 c7)) (fun c7 => And.intro (Or.inl rfl) (False.elim (v5.2 c7))))))))))))))))
set_option maxRecDepth 40000 in
theorem v13_law_447 {y3 : Int} {h : Hp} (C : LC g p s m meth c b) (v0 : Good g 100 i9_place [LR 9 4] S0 h S0 (retI (fun r3 h1 =>
 Good g 100 i10_place [LR 10 608] S0 h1 S0 (retI (fun r6 h4 =>
 ((r3 = r6 → LZ g p e s m below meth c b 988 [some (LR 20 1), some (LR 9 4), some (LR 10 608), some (LI y3)] [] S0 h4) ∧
 (¬ r3 = r6 → False))))))) : LZ g p e s m below meth c b 447 [some (LR 20 1), some (LR 9 4), some (LR 10 608), some (LI y3)] [] S0 h :=
 LZ.run 40 csL C (And.intro (show (4 : Int) ≠ 0 by decide) (And.intro (Int.le_refl _) (Good.mI v0 (fun r3 h1 v2 => And.intro (show (608 : Int) ≠ 0 by decide) (And.intro (Int.le_refl _) (Good.mI v2 (fun r6 h4 v5 => And.intro (fun c7 => (v5.1 c7)) (fun c7 => And.intro (Or.inl rfl) (False.elim (v5.2 c7))))))))))
set_option maxRecDepth 40000 in
theorem v13_law_460 {y3 : Int} {h : Hp} (C : LC g p s m meth c b) (v0 : 0 ≤ ((w32 (y3 + 1))) ∧ ((w32 (y3 + 1))) < lnn g 1 ∧ Good g 100 i9_count [LR 9 4, LI (h 1 (w32 (y3 + 1)))] S0 h S0 (retI (fun r3 h1 =>
 Good g 100 i10_count [LR 10 608, LI (h1 1 (w32 (y3 + 1)))] S0 h1 S0 (retI (fun r6 h4 =>
 ((r3 = r6 → LZ g p e s m below meth c b 988 [some (LR 20 1), some (LR 9 4), some (LR 10 608), some (LI y3)] [] S0 h4) ∧
 (¬ r3 = r6 → False))))))) : LZ g p e s m below meth c b 460 [some (LR 20 1), some (LR 9 4), some (LR 10 608), some (LI y3)] [] S0 h :=
 LZ.run 40 csL C (And.intro (show (1 : Int) ≠ 0 by decide) (And.intro v0.1 (And.intro v0.2.1 (And.intro (show (4 : Int) ≠ 0 by decide) (And.intro (Int.le_refl _) (Good.mI v0.2.2 (fun r3 h1 v2 => And.intro (show (1 : Int) ≠ 0 by decide) (And.intro v0.1 (And.intro v0.2.1 (And.intro (show (608 : Int) ≠ 0 by decide) (And.intro (Int.le_refl _) (Good.mI v2 (fun r6 h4 v5 => And.intro (fun c7 => (v5.1 c7)) (fun c7 => And.intro (Or.inl rfl) (False.elim (v5.2 c7))))))))))))))))
set_option maxRecDepth 40000 in
theorem v13_law_483 {y3 : Int} {h : Hp} (C : LC g p s m meth c b) (v0 : 0 ≤ ((w32 (y3 + 1))) ∧ ((w32 (y3 + 1))) < lnn g 1 ∧ 0 ≤ ((w32 (y3 + 2))) ∧ ((w32 (y3 + 2))) < lnn g 1 ∧ Good g 100 i9_told [LR 9 4, LI (h 1 (w32 (y3 + 1))), LI (h 1 (w32 (y3 + 2)))] S0 h S0 (retI (fun r3 h1 =>
 Good g 100 i10_told [LR 10 608, LI (h1 1 (w32 (y3 + 1))), LI (h1 1 (w32 (y3 + 2)))] S0 h1 S0 (retI (fun r6 h4 =>
 ((r3 = r6 → LZ g p e s m below meth c b 988 [some (LR 20 1), some (LR 9 4), some (LR 10 608), some (LI y3)] [] S0 h4) ∧
 (¬ r3 = r6 → False))))))) : LZ g p e s m below meth c b 483 [some (LR 20 1), some (LR 9 4), some (LR 10 608), some (LI y3)] [] S0 h :=
 LZ.run 40 csL C (And.intro (show (1 : Int) ≠ 0 by decide) (And.intro v0.1 (And.intro v0.2.1 (And.intro (show (1 : Int) ≠ 0 by decide) (And.intro v0.2.2.1 (And.intro v0.2.2.2.1 (And.intro (show (4 : Int) ≠ 0 by decide) (And.intro (Int.le_refl _) (Good.mI v0.2.2.2.2 (fun r3 h1 v2 => And.intro (show (1 : Int) ≠ 0 by decide) (And.intro v0.1 (And.intro v0.2.1 (And.intro (show (1 : Int) ≠ 0 by decide) (And.intro v0.2.2.1 (And.intro v0.2.2.2.1 (And.intro (show (608 : Int) ≠ 0 by decide) (And.intro (Int.le_refl _) (Good.mI v2 (fun r6 h4 v5 => And.intro (fun c7 => (v5.1 c7)) (fun c7 => And.intro (Or.inl rfl) (False.elim (v5.2 c7))))))))))))))))))))))
set_option maxRecDepth 40000 in
theorem v13_law_516 {y3 : Int} {h : Hp} (C : LC g p s m meth c b) (v0 : 0 ≤ ((w32 (y3 + 1))) ∧ ((w32 (y3 + 1))) < lnn g 1 ∧ 0 ≤ ((w32 (y3 + 2))) ∧ ((w32 (y3 + 2))) < lnn g 1 ∧ Good g 100 i9_node [LR 9 4, LI (h 1 (w32 (y3 + 1))), LI (h 1 (w32 (y3 + 2)))] S0 h S0 (retL (fun r3 h1 =>
 Good g 100 i10_node [LR 10 608, LI (h1 1 (w32 (y3 + 1))), LI (h1 1 (w32 (y3 + 2)))] S0 h1 S0 (retL (fun r6 h4 =>
 (((lcmpI r3 r6) = 0 → LZ g p e s m below meth c b 988 [some (LR 20 1), some (LR 9 4), some (LR 10 608), some (LI y3)] [] S0 h4) ∧
 (¬ (lcmpI r3 r6) = 0 → False))))))) : LZ g p e s m below meth c b 516 [some (LR 20 1), some (LR 9 4), some (LR 10 608), some (LI y3)] [] S0 h :=
 LZ.run 40 csL C (And.intro (show (1 : Int) ≠ 0 by decide) (And.intro v0.1 (And.intro v0.2.1 (And.intro (show (1 : Int) ≠ 0 by decide) (And.intro v0.2.2.1 (And.intro v0.2.2.2.1 (And.intro (show (4 : Int) ≠ 0 by decide) (And.intro (Int.le_refl _) (Good.mL v0.2.2.2.2 (fun r3 h1 v2 => And.intro (show (1 : Int) ≠ 0 by decide) (And.intro v0.1 (And.intro v0.2.1 (And.intro (show (1 : Int) ≠ 0 by decide) (And.intro v0.2.2.1 (And.intro v0.2.2.2.1 (And.intro (show (608 : Int) ≠ 0 by decide) (And.intro (Int.le_refl _) (Good.mL v2 (fun r6 h4 v5 => And.intro (fun c7 => (v5.1 c7)) (fun c7 => And.intro (Or.inl rfl) (False.elim (v5.2 c7))))))))))))))))))))))
set_option maxRecDepth 40000 in
theorem v13_law_550 {y3 : Int} {h : Hp} (C : LC g p s m meth c b) (v0 : 0 ≤ ((w32 (y3 + 1))) ∧ ((w32 (y3 + 1))) < lnn g 1 ∧ 0 ≤ ((w32 (y3 + 2))) ∧ ((w32 (y3 + 2))) < lnn g 1 ∧ Good g 100 i9_alike [LR 9 4, LI (h 1 (w32 (y3 + 1))), LI (h 1 (w32 (y3 + 2)))] S0 h S0 (retI (fun r3 h1 =>
 Good g 100 i10_alike [LR 10 608, LI (h1 1 (w32 (y3 + 1))), LI (h1 1 (w32 (y3 + 2)))] S0 h1 S0 (retI (fun r6 h4 =>
 ((r3 = r6 → LZ g p e s m below meth c b 988 [some (LR 20 1), some (LR 9 4), some (LR 10 608), some (LI y3)] [] S0 h4) ∧
 (¬ r3 = r6 → False))))))) : LZ g p e s m below meth c b 550 [some (LR 20 1), some (LR 9 4), some (LR 10 608), some (LI y3)] [] S0 h :=
 LZ.run 40 csL C (And.intro (show (1 : Int) ≠ 0 by decide) (And.intro v0.1 (And.intro v0.2.1 (And.intro (show (1 : Int) ≠ 0 by decide) (And.intro v0.2.2.1 (And.intro v0.2.2.2.1 (And.intro (show (4 : Int) ≠ 0 by decide) (And.intro (Int.le_refl _) (Good.mI v0.2.2.2.2 (fun r3 h1 v2 => And.intro (show (1 : Int) ≠ 0 by decide) (And.intro v0.1 (And.intro v0.2.1 (And.intro (show (1 : Int) ≠ 0 by decide) (And.intro v0.2.2.1 (And.intro v0.2.2.2.1 (And.intro (show (608 : Int) ≠ 0 by decide) (And.intro (Int.le_refl _) (Good.mI v2 (fun r6 h4 v5 => And.intro (fun c7 => (v5.1 c7)) (fun c7 => And.intro (Or.inl rfl) (False.elim (v5.2 c7))))))))))))))))))))))
set_option maxRecDepth 40000 in
theorem v13_law_583 {y3 : Int} {h : Hp} (C : LC g p s m meth c b) (v0 : Good g 100 i9_ask [LR 9 4] S0 h S0 (retI (fun r3 h1 =>
 Good g 100 i10_ask [LR 10 608] S0 h1 S0 (retI (fun r6 h4 =>
 ((r3 = r6 → LZ g p e s m below meth c b 988 [some (LR 20 1), some (LR 9 4), some (LR 10 608), some (LI y3)] [] S0 h4) ∧
 (¬ r3 = r6 → False))))))) : LZ g p e s m below meth c b 583 [some (LR 20 1), some (LR 9 4), some (LR 10 608), some (LI y3)] [] S0 h :=
 LZ.run 40 csL C (And.intro (show (4 : Int) ≠ 0 by decide) (And.intro (Int.le_refl _) (Good.mI v0 (fun r3 h1 v2 => And.intro (show (608 : Int) ≠ 0 by decide) (And.intro (Int.le_refl _) (Good.mI v2 (fun r6 h4 v5 => And.intro (fun c7 => (v5.1 c7)) (fun c7 => And.intro (Or.inl rfl) (False.elim (v5.2 c7))))))))))
set_option maxRecDepth 40000 in
theorem v13_law_596 {y3 : Int} {h : Hp} (C : LC g p s m meth c b) (v0 : 0 ≤ ((w32 (y3 + 1))) ∧ ((w32 (y3 + 1))) < lnn g 1 ∧ Good g 100 i9_fit [LR 9 4, LI (h 1 (w32 (y3 + 1)))] S0 h S0 (retI (fun r3 h1 =>
 Good g 100 i10_fit [LR 10 608, LI (h1 1 (w32 (y3 + 1)))] S0 h1 S0 (retI (fun r6 h4 =>
 ((r3 = r6 → LZ g p e s m below meth c b 988 [some (LR 20 1), some (LR 9 4), some (LR 10 608), some (LI y3)] [] S0 h4) ∧
 (¬ r3 = r6 → False))))))) : LZ g p e s m below meth c b 596 [some (LR 20 1), some (LR 9 4), some (LR 10 608), some (LI y3)] [] S0 h :=
 LZ.run 40 csL C (And.intro (show (1 : Int) ≠ 0 by decide) (And.intro v0.1 (And.intro v0.2.1 (And.intro (show (4 : Int) ≠ 0 by decide) (And.intro (Int.le_refl _) (Good.mI v0.2.2 (fun r3 h1 v2 => And.intro (show (1 : Int) ≠ 0 by decide) (And.intro v0.1 (And.intro v0.2.1 (And.intro (show (608 : Int) ≠ 0 by decide) (And.intro (Int.le_refl _) (Good.mI v2 (fun r6 h4 v5 => And.intro (fun c7 => (v5.1 c7)) (fun c7 => And.intro (Or.inl rfl) (False.elim (v5.2 c7))))))))))))))))
set_option maxRecDepth 40000 in
theorem v13_law_619 {y3 : Int} {h : Hp} (C : LC g p s m meth c b) (v0 : 0 ≤ ((w32 (y3 + 1))) ∧ ((w32 (y3 + 1))) < lnn g 1 ∧ Good g 100 i9_fillings [LR 9 4, LI (h 1 (w32 (y3 + 1)))] S0 h S0 (retI (fun r3 h1 =>
 Good g 100 i10_fillings [LR 10 608, LI (h1 1 (w32 (y3 + 1)))] S0 h1 S0 (retI (fun r6 h4 =>
 ((r3 = r6 → LZ g p e s m below meth c b 988 [some (LR 20 1), some (LR 9 4), some (LR 10 608), some (LI y3)] [] S0 h4) ∧
 (¬ r3 = r6 → False))))))) : LZ g p e s m below meth c b 619 [some (LR 20 1), some (LR 9 4), some (LR 10 608), some (LI y3)] [] S0 h :=
 LZ.run 40 csL C (And.intro (show (1 : Int) ≠ 0 by decide) (And.intro v0.1 (And.intro v0.2.1 (And.intro (show (4 : Int) ≠ 0 by decide) (And.intro (Int.le_refl _) (Good.mI v0.2.2 (fun r3 h1 v2 => And.intro (show (1 : Int) ≠ 0 by decide) (And.intro v0.1 (And.intro v0.2.1 (And.intro (show (608 : Int) ≠ 0 by decide) (And.intro (Int.le_refl _) (Good.mI v2 (fun r6 h4 v5 => And.intro (fun c7 => (v5.1 c7)) (fun c7 => And.intro (Or.inl rfl) (False.elim (v5.2 c7))))))))))))))))
set_option maxRecDepth 40000 in
theorem v13_law_642 {y3 : Int} {h : Hp} (C : LC g p s m meth c b) (v0 : 0 ≤ ((w32 (y3 + 1))) ∧ ((w32 (y3 + 1))) < lnn g 1 ∧ 0 ≤ ((w32 (y3 + 2))) ∧ ((w32 (y3 + 2))) < lnn g 1 ∧ 0 ≤ ((w32 (y3 + 3))) ∧ ((w32 (y3 + 3))) < lnn g 1 ∧ Good g 100 i9_filling [LR 9 4, LI (h 1 (w32 (y3 + 1))), LI (h 1 (w32 (y3 + 2))), LI (h 1 (w32 (y3 + 3)))] S0 h S0 (retI (fun r3 h1 =>
 Good g 100 i10_filling [LR 10 608, LI (h1 1 (w32 (y3 + 1))), LI (h1 1 (w32 (y3 + 2))), LI (h1 1 (w32 (y3 + 3)))] S0 h1 S0 (retI (fun r6 h4 =>
 ((r3 = r6 → LZ g p e s m below meth c b 988 [some (LR 20 1), some (LR 9 4), some (LR 10 608), some (LI y3)] [] S0 h4) ∧
 (¬ r3 = r6 → False))))))) : LZ g p e s m below meth c b 642 [some (LR 20 1), some (LR 9 4), some (LR 10 608), some (LI y3)] [] S0 h :=
 LZ.run 40 csL C (And.intro (show (1 : Int) ≠ 0 by decide) (And.intro v0.1 (And.intro v0.2.1 (And.intro (show (1 : Int) ≠ 0 by decide) (And.intro v0.2.2.1 (And.intro v0.2.2.2.1 (And.intro (show (1 : Int) ≠ 0 by decide) (And.intro v0.2.2.2.2.1 (And.intro v0.2.2.2.2.2.1 (And.intro (show (4 : Int) ≠ 0 by decide) (And.intro (Int.le_refl _) (Good.mI v0.2.2.2.2.2.2 (fun r3 h1 v2 => And.intro (show (1 : Int) ≠ 0 by decide) (And.intro v0.1 (And.intro v0.2.1 (And.intro (show (1 : Int) ≠ 0 by decide) (And.intro v0.2.2.1 (And.intro v0.2.2.2.1 (And.intro (show (1 : Int) ≠ 0 by decide) (And.intro v0.2.2.2.2.1 (And.intro v0.2.2.2.2.2.1 (And.intro (show (608 : Int) ≠ 0 by decide) (And.intro (Int.le_refl _) (Good.mI v2 (fun r6 h4 v5 => And.intro (fun c7 => (v5.1 c7)) (fun c7 => And.intro (Or.inl rfl) (False.elim (v5.2 c7))))))))))))))))))))))))))))
set_option maxRecDepth 40000 in
theorem v13_law_685 {y3 : Int} {h : Hp} (C : LC g p s m meth c b) (v0 : 0 ≤ ((w32 (y3 + 1))) ∧ ((w32 (y3 + 1))) < lnn g 1 ∧ 0 ≤ ((w32 (y3 + 2))) ∧ ((w32 (y3 + 2))) < lnn g 1 ∧ Good g 100 i9_asked [LR 9 4, LI (h 1 (w32 (y3 + 1))), LI (h 1 (w32 (y3 + 2)))] S0 h S0 (retI (fun r3 h1 =>
 Good g 100 i10_asked [LR 10 608, LI (h1 1 (w32 (y3 + 1))), LI (h1 1 (w32 (y3 + 2)))] S0 h1 S0 (retI (fun r6 h4 =>
 ((r3 = r6 → LZ g p e s m below meth c b 988 [some (LR 20 1), some (LR 9 4), some (LR 10 608), some (LI y3)] [] S0 h4) ∧
 (¬ r3 = r6 → False))))))) : LZ g p e s m below meth c b 685 [some (LR 20 1), some (LR 9 4), some (LR 10 608), some (LI y3)] [] S0 h :=
 LZ.run 40 csL C (And.intro (show (1 : Int) ≠ 0 by decide) (And.intro v0.1 (And.intro v0.2.1 (And.intro (show (1 : Int) ≠ 0 by decide) (And.intro v0.2.2.1 (And.intro v0.2.2.2.1 (And.intro (show (4 : Int) ≠ 0 by decide) (And.intro (Int.le_refl _) (Good.mI v0.2.2.2.2 (fun r3 h1 v2 => And.intro (show (1 : Int) ≠ 0 by decide) (And.intro v0.1 (And.intro v0.2.1 (And.intro (show (1 : Int) ≠ 0 by decide) (And.intro v0.2.2.1 (And.intro v0.2.2.2.1 (And.intro (show (608 : Int) ≠ 0 by decide) (And.intro (Int.le_refl _) (Good.mI v2 (fun r6 h4 v5 => And.intro (fun c7 => (v5.1 c7)) (fun c7 => And.intro (Or.inl rfl) (False.elim (v5.2 c7))))))))))))))))))))))
set_option maxRecDepth 40000 in
theorem v13_law_718 {y3 : Int} {h : Hp} (C : LC g p s m meth c b) (v0 : 0 ≤ ((w32 (y3 + 1))) ∧ ((w32 (y3 + 1))) < lnn g 1 ∧ 0 ≤ ((w32 (y3 + 2))) ∧ ((w32 (y3 + 2))) < lnn g 1 ∧ Good g 100 i9_at [LR 9 4, LI (h 1 (w32 (y3 + 1))), LI (h 1 (w32 (y3 + 2)))] S0 h S0 (retI (fun r3 h1 =>
 Good g 100 i10_at [LR 10 608, LI (h1 1 (w32 (y3 + 1))), LI (h1 1 (w32 (y3 + 2)))] S0 h1 S0 (retI (fun r6 h4 =>
 ((r3 = r6 → LZ g p e s m below meth c b 988 [some (LR 20 1), some (LR 9 4), some (LR 10 608), some (LI y3)] [] S0 h4) ∧
 (¬ r3 = r6 → False))))))) : LZ g p e s m below meth c b 718 [some (LR 20 1), some (LR 9 4), some (LR 10 608), some (LI y3)] [] S0 h :=
 LZ.run 40 csL C (And.intro (show (1 : Int) ≠ 0 by decide) (And.intro v0.1 (And.intro v0.2.1 (And.intro (show (1 : Int) ≠ 0 by decide) (And.intro v0.2.2.1 (And.intro v0.2.2.2.1 (And.intro (show (4 : Int) ≠ 0 by decide) (And.intro (Int.le_refl _) (Good.mI v0.2.2.2.2 (fun r3 h1 v2 => And.intro (show (1 : Int) ≠ 0 by decide) (And.intro v0.1 (And.intro v0.2.1 (And.intro (show (1 : Int) ≠ 0 by decide) (And.intro v0.2.2.1 (And.intro v0.2.2.2.1 (And.intro (show (608 : Int) ≠ 0 by decide) (And.intro (Int.le_refl _) (Good.mI v2 (fun r6 h4 v5 => And.intro (fun c7 => (v5.1 c7)) (fun c7 => And.intro (Or.inl rfl) (False.elim (v5.2 c7))))))))))))))))))))))
set_option maxRecDepth 40000 in
theorem v13_law_751 {y3 : Int} {h : Hp} (C : LC g p s m meth c b) (v0 : 0 ≤ ((w32 (y3 + 1))) ∧ ((w32 (y3 + 1))) < lnn g 1 ∧ 0 ≤ ((w32 (y3 + 2))) ∧ ((w32 (y3 + 2))) < lnn g 1 ∧ Good g 100 i9_found [LR 9 4, LI (h 1 (w32 (y3 + 1))), LI (h 1 (w32 (y3 + 2)))] S0 h S0 (retI (fun r3 h1 =>
 Good g 100 i10_found [LR 10 608, LI (h1 1 (w32 (y3 + 1))), LI (h1 1 (w32 (y3 + 2)))] S0 h1 S0 (retI (fun r6 h4 =>
 ((r3 = r6 → LZ g p e s m below meth c b 988 [some (LR 20 1), some (LR 9 4), some (LR 10 608), some (LI y3)] [] S0 h4) ∧
 (¬ r3 = r6 → False))))))) : LZ g p e s m below meth c b 751 [some (LR 20 1), some (LR 9 4), some (LR 10 608), some (LI y3)] [] S0 h :=
 LZ.run 40 csL C (And.intro (show (1 : Int) ≠ 0 by decide) (And.intro v0.1 (And.intro v0.2.1 (And.intro (show (1 : Int) ≠ 0 by decide) (And.intro v0.2.2.1 (And.intro v0.2.2.2.1 (And.intro (show (4 : Int) ≠ 0 by decide) (And.intro (Int.le_refl _) (Good.mI v0.2.2.2.2 (fun r3 h1 v2 => And.intro (show (1 : Int) ≠ 0 by decide) (And.intro v0.1 (And.intro v0.2.1 (And.intro (show (1 : Int) ≠ 0 by decide) (And.intro v0.2.2.1 (And.intro v0.2.2.2.1 (And.intro (show (608 : Int) ≠ 0 by decide) (And.intro (Int.le_refl _) (Good.mI v2 (fun r6 h4 v5 => And.intro (fun c7 => (v5.1 c7)) (fun c7 => And.intro (Or.inl rfl) (False.elim (v5.2 c7))))))))))))))))))))))
set_option maxRecDepth 40000 in
theorem v13_law_784 {y3 : Int} {h : Hp} (C : LC g p s m meth c b) (v0 : 0 ≤ ((w32 (y3 + 1))) ∧ ((w32 (y3 + 1))) < lnn g 1 ∧ Good g 100 i9_looks [LR 9 4, LI (h 1 (w32 (y3 + 1)))] S0 h S0 (retI (fun r3 h1 =>
 Good g 100 i10_looks [LR 10 608, LI (h1 1 (w32 (y3 + 1)))] S0 h1 S0 (retI (fun r6 h4 =>
 ((r3 = r6 → LZ g p e s m below meth c b 988 [some (LR 20 1), some (LR 9 4), some (LR 10 608), some (LI y3)] [] S0 h4) ∧
 (¬ r3 = r6 → False))))))) : LZ g p e s m below meth c b 784 [some (LR 20 1), some (LR 9 4), some (LR 10 608), some (LI y3)] [] S0 h :=
 LZ.run 40 csL C (And.intro (show (1 : Int) ≠ 0 by decide) (And.intro v0.1 (And.intro v0.2.1 (And.intro (show (4 : Int) ≠ 0 by decide) (And.intro (Int.le_refl _) (Good.mI v0.2.2 (fun r3 h1 v2 => And.intro (show (1 : Int) ≠ 0 by decide) (And.intro v0.1 (And.intro v0.2.1 (And.intro (show (608 : Int) ≠ 0 by decide) (And.intro (Int.le_refl _) (Good.mI v2 (fun r6 h4 v5 => And.intro (fun c7 => (v5.1 c7)) (fun c7 => And.intro (Or.inl rfl) (False.elim (v5.2 c7))))))))))))))))
set_option maxRecDepth 40000 in
theorem v13_law_807 {y3 : Int} {h : Hp} (C : LC g p s m meth c b) (v0 : 0 ≤ ((w32 (y3 + 1))) ∧ ((w32 (y3 + 1))) < lnn g 1 ∧ 0 ≤ ((w32 (y3 + 2))) ∧ ((w32 (y3 + 2))) < lnn g 1 ∧ Good g 100 i9_parts [LR 9 4, LI (h 1 (w32 (y3 + 1))), LI (h 1 (w32 (y3 + 2)))] S0 h S0 (retI (fun r3 h1 =>
 Good g 100 i10_parts [LR 10 608, LI (h1 1 (w32 (y3 + 1))), LI (h1 1 (w32 (y3 + 2)))] S0 h1 S0 (retI (fun r6 h4 =>
 ((r3 = r6 → LZ g p e s m below meth c b 988 [some (LR 20 1), some (LR 9 4), some (LR 10 608), some (LI y3)] [] S0 h4) ∧
 (¬ r3 = r6 → False))))))) : LZ g p e s m below meth c b 807 [some (LR 20 1), some (LR 9 4), some (LR 10 608), some (LI y3)] [] S0 h :=
 LZ.run 40 csL C (And.intro (show (1 : Int) ≠ 0 by decide) (And.intro v0.1 (And.intro v0.2.1 (And.intro (show (1 : Int) ≠ 0 by decide) (And.intro v0.2.2.1 (And.intro v0.2.2.2.1 (And.intro (show (4 : Int) ≠ 0 by decide) (And.intro (Int.le_refl _) (Good.mI v0.2.2.2.2 (fun r3 h1 v2 => And.intro (show (1 : Int) ≠ 0 by decide) (And.intro v0.1 (And.intro v0.2.1 (And.intro (show (1 : Int) ≠ 0 by decide) (And.intro v0.2.2.1 (And.intro v0.2.2.2.1 (And.intro (show (608 : Int) ≠ 0 by decide) (And.intro (Int.le_refl _) (Good.mI v2 (fun r6 h4 v5 => And.intro (fun c7 => (v5.1 c7)) (fun c7 => And.intro (Or.inl rfl) (False.elim (v5.2 c7))))))))))))))))))))))
set_option maxRecDepth 40000 in
theorem v13_law_840 {y3 : Int} {h : Hp} (C : LC g p s m meth c b) (v0 : 0 ≤ ((w32 (y3 + 1))) ∧ ((w32 (y3 + 1))) < lnn g 1 ∧ 0 ≤ ((w32 (y3 + 2))) ∧ ((w32 (y3 + 2))) < lnn g 1 ∧ Good g 100 i9_shared [LR 9 4, LI (h 1 (w32 (y3 + 1))), LI (h 1 (w32 (y3 + 2)))] S0 h S0 (retI (fun r3 h1 =>
 Good g 100 i10_shared [LR 10 608, LI (h1 1 (w32 (y3 + 1))), LI (h1 1 (w32 (y3 + 2)))] S0 h1 S0 (retI (fun r6 h4 =>
 ((r3 = r6 → LZ g p e s m below meth c b 988 [some (LR 20 1), some (LR 9 4), some (LR 10 608), some (LI y3)] [] S0 h4) ∧
 (¬ r3 = r6 → False))))))) : LZ g p e s m below meth c b 840 [some (LR 20 1), some (LR 9 4), some (LR 10 608), some (LI y3)] [] S0 h :=
 LZ.run 40 csL C (And.intro (show (1 : Int) ≠ 0 by decide) (And.intro v0.1 (And.intro v0.2.1 (And.intro (show (1 : Int) ≠ 0 by decide) (And.intro v0.2.2.1 (And.intro v0.2.2.2.1 (And.intro (show (4 : Int) ≠ 0 by decide) (And.intro (Int.le_refl _) (Good.mI v0.2.2.2.2 (fun r3 h1 v2 => And.intro (show (1 : Int) ≠ 0 by decide) (And.intro v0.1 (And.intro v0.2.1 (And.intro (show (1 : Int) ≠ 0 by decide) (And.intro v0.2.2.1 (And.intro v0.2.2.2.1 (And.intro (show (608 : Int) ≠ 0 by decide) (And.intro (Int.le_refl _) (Good.mI v2 (fun r6 h4 v5 => And.intro (fun c7 => (v5.1 c7)) (fun c7 => And.intro (Or.inl rfl) (False.elim (v5.2 c7))))))))))))))))))))))
set_option maxRecDepth 40000 in
theorem v13_law_873 {y3 : Int} {h : Hp} (C : LC g p s m meth c b) (v0 : 0 ≤ ((w32 (y3 + 1))) ∧ ((w32 (y3 + 1))) < lnn g 1 ∧ 0 ≤ ((w32 (y3 + 2))) ∧ ((w32 (y3 + 2))) < lnn g 1 ∧ Good g 100 i9_clash [LR 9 4, LI (h 1 (w32 (y3 + 1))), LI (h 1 (w32 (y3 + 2)))] S0 h S0 (retI (fun r3 h1 =>
 Good g 100 i10_clash [LR 10 608, LI (h1 1 (w32 (y3 + 1))), LI (h1 1 (w32 (y3 + 2)))] S0 h1 S0 (retI (fun r6 h4 =>
 ((r3 = r6 → LZ g p e s m below meth c b 988 [some (LR 20 1), some (LR 9 4), some (LR 10 608), some (LI y3)] [] S0 h4) ∧
 (¬ r3 = r6 → False))))))) : LZ g p e s m below meth c b 873 [some (LR 20 1), some (LR 9 4), some (LR 10 608), some (LI y3)] [] S0 h :=
 LZ.run 40 csL C (And.intro (show (1 : Int) ≠ 0 by decide) (And.intro v0.1 (And.intro v0.2.1 (And.intro (show (1 : Int) ≠ 0 by decide) (And.intro v0.2.2.1 (And.intro v0.2.2.2.1 (And.intro (show (4 : Int) ≠ 0 by decide) (And.intro (Int.le_refl _) (Good.mI v0.2.2.2.2 (fun r3 h1 v2 => And.intro (show (1 : Int) ≠ 0 by decide) (And.intro v0.1 (And.intro v0.2.1 (And.intro (show (1 : Int) ≠ 0 by decide) (And.intro v0.2.2.1 (And.intro v0.2.2.2.1 (And.intro (show (608 : Int) ≠ 0 by decide) (And.intro (Int.le_refl _) (Good.mI v2 (fun r6 h4 v5 => And.intro (fun c7 => (v5.1 c7)) (fun c7 => And.intro (Or.inl rfl) (False.elim (v5.2 c7))))))))))))))))))))))
set_option maxRecDepth 40000 in
theorem v13_law_906 {y3 : Int} {h : Hp} (C : LC g p s m meth c b) (v0 : 0 ≤ ((w32 (y3 + 1))) ∧ ((w32 (y3 + 1))) < lnn g 1 ∧ Good g 100 i9_print [LR 9 4, LI (h 1 (w32 (y3 + 1)))] S0 h S0 (retI (fun r3 h1 =>
 Good g 100 i10_print [LR 10 608, LI (h1 1 (w32 (y3 + 1)))] S0 h1 S0 (retI (fun r6 h4 =>
 ((r3 = r6 → LZ g p e s m below meth c b 988 [some (LR 20 1), some (LR 9 4), some (LR 10 608), some (LI y3)] [] S0 h4) ∧
 (¬ r3 = r6 → False))))))) : LZ g p e s m below meth c b 906 [some (LR 20 1), some (LR 9 4), some (LR 10 608), some (LI y3)] [] S0 h :=
 LZ.run 40 csL C (And.intro (show (1 : Int) ≠ 0 by decide) (And.intro v0.1 (And.intro v0.2.1 (And.intro (show (4 : Int) ≠ 0 by decide) (And.intro (Int.le_refl _) (Good.mI v0.2.2 (fun r3 h1 v2 => And.intro (show (1 : Int) ≠ 0 by decide) (And.intro v0.1 (And.intro v0.2.1 (And.intro (show (608 : Int) ≠ 0 by decide) (And.intro (Int.le_refl _) (Good.mI v2 (fun r6 h4 v5 => And.intro (fun c7 => (v5.1 c7)) (fun c7 => And.intro (Or.inl rfl) (False.elim (v5.2 c7))))))))))))))))
set_option maxRecDepth 40000 in
theorem v13_law_929 {y3 : Int} {h : Hp} (C : LC g p s m meth c b) (v0 : 0 ≤ ((w32 (y3 + 1))) ∧ ((w32 (y3 + 1))) < lnn g 1 ∧ Good g 100 i9_printNode [LR 9 4, LI (h 1 (w32 (y3 + 1)))] S0 h S0 (retI (fun r3 h1 =>
 Good g 100 i10_printNode [LR 10 608, LI (h1 1 (w32 (y3 + 1)))] S0 h1 S0 (retI (fun r6 h4 =>
 ((r3 = r6 → LZ g p e s m below meth c b 988 [some (LR 20 1), some (LR 9 4), some (LR 10 608), some (LI y3)] [] S0 h4) ∧
 (¬ r3 = r6 → False))))))) : LZ g p e s m below meth c b 929 [some (LR 20 1), some (LR 9 4), some (LR 10 608), some (LI y3)] [] S0 h :=
 LZ.run 40 csL C (And.intro (show (1 : Int) ≠ 0 by decide) (And.intro v0.1 (And.intro v0.2.1 (And.intro (show (4 : Int) ≠ 0 by decide) (And.intro (Int.le_refl _) (Good.mI v0.2.2 (fun r3 h1 v2 => And.intro (show (1 : Int) ≠ 0 by decide) (And.intro v0.1 (And.intro v0.2.1 (And.intro (show (608 : Int) ≠ 0 by decide) (And.intro (Int.le_refl _) (Good.mI v2 (fun r6 h4 v5 => And.intro (fun c7 => (v5.1 c7)) (fun c7 => And.intro (Or.inl rfl) (False.elim (v5.2 c7))))))))))))))))
set_option maxRecDepth 40000 in
theorem v13_law_952 {y3 : Int} {h : Hp} (C : LC g p s m meth c b) (v0 : 0 ≤ ((w32 (y3 + 1))) ∧ ((w32 (y3 + 1))) < lnn g 1 ∧ Good g 100 i9_out [LR 9 4, LI (h 1 (w32 (y3 + 1)))] S0 h S0 (retI (fun r3 h1 =>
 Good g 100 i10_out [LR 10 608, LI (h1 1 (w32 (y3 + 1)))] S0 h1 S0 (retI (fun r6 h4 =>
 ((r3 = r6 → LZ g p e s m below meth c b 988 [some (LR 20 1), some (LR 9 4), some (LR 10 608), some (LI y3)] [] S0 h4) ∧
 (¬ r3 = r6 → False))))))) : LZ g p e s m below meth c b 952 [some (LR 20 1), some (LR 9 4), some (LR 10 608), some (LI y3)] [] S0 h :=
 LZ.run 40 csL C (And.intro (show (1 : Int) ≠ 0 by decide) (And.intro v0.1 (And.intro v0.2.1 (And.intro (show (4 : Int) ≠ 0 by decide) (And.intro (Int.le_refl _) (Good.mI v0.2.2 (fun r3 h1 v2 => And.intro (show (1 : Int) ≠ 0 by decide) (And.intro v0.1 (And.intro v0.2.1 (And.intro (show (608 : Int) ≠ 0 by decide) (And.intro (Int.le_refl _) (Good.mI v2 (fun r6 h4 v5 => And.intro (fun c7 => (v5.1 c7)) (fun c7 => And.intro (Or.inl rfl) (False.elim (v5.2 c7))))))))))))))))
set_option maxRecDepth 40000 in
theorem v13_law_975 {y3 : Int} {h : Hp} (C : LC g p s m meth c b) (v0 : Good g 100 i9_back [LR 9 4] S0 h S0 (retI (fun r3 h1 =>
 Good g 100 i10_back [LR 10 608] S0 h1 S0 (retI (fun r6 h4 =>
 ((r3 = r6 → LZ g p e s m below meth c b 988 [some (LR 20 1), some (LR 9 4), some (LR 10 608), some (LI y3)] [] S0 h4) ∧
 (¬ r3 = r6 → False))))))) : LZ g p e s m below meth c b 975 [some (LR 20 1), some (LR 9 4), some (LR 10 608), some (LI y3)] [] S0 h :=
 LZ.run 40 csL C (And.intro (show (4 : Int) ≠ 0 by decide) (And.intro (Int.le_refl _) (Good.mI v0 (fun r3 h1 v2 => And.intro (show (608 : Int) ≠ 0 by decide) (And.intro (Int.le_refl _) (Good.mI v2 (fun r6 h4 v5 => And.intro (fun c7 => (v5.1 c7)) (fun c7 => And.intro (Or.inl rfl) (False.elim (v5.2 c7))))))))))
set_option maxRecDepth 40000 in
theorem v13_law_988 {y3 : Int} {h : Hp} (C : LC g p s m meth c b) (v0 : LZ g p e s m below meth c b 18 [some (LR 20 1), some (LR 9 4), some (LR 10 608), some (LI (w32 (y3 + 6)))] [] S0 h) : LZ g p e s m below meth c b 988 [some (LR 20 1), some (LR 9 4), some (LR 10 608), some (LI y3)] [] S0 h :=
 LZ.run 40 csL C (v0)
end LAW
