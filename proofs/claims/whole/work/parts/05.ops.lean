/-! THE LIGHT MACHINE IS SOUND, 1: numbers, locals, instructions that touch the stack alone -/
theorem o32 (z : Int) : Int32.ofInt (w32 z) = Int32.ofInt z := Int32.ofInt_toInt _
theorem o64 (z : Int) : Int64.ofInt (w64 z) = Int64.ofInt z := Int64.ofInt_toInt _
theorem inI_i (v : Int32) : inI v.toInt := ⟨Int32.le_toInt v, Int32.toInt_lt v⟩
theorem inL_i (v : Int64) : inL v.toInt := ⟨Int64.le_toInt v, Int64.toInt_lt v⟩
theorem inI_w (z : Int) : inI (w32 z) := inI_i _
theorem inL_w (z : Int) : inL (w64 z) := inL_i _
theorem t32 {x : Int} (h : inI x) : (Int32.ofInt x).toInt = x := Int32.toInt_ofInt_of_le h.1 h.2
theorem t64 {x : Int} (h : inL x) : (Int64.ofInt x).toInt = x := Int64.toInt_ofInt_of_le h.1 h.2
theorem w32_id {x : Int} (h1 : -2147483648 ≤ x) (h2 : x < 2147483648) : w32 x = x := t32 ⟨h1, h2⟩
theorem w64_id {x : Int} (h1 : -9223372036854775808 ≤ x) (h2 : x < 9223372036854775808) : w64 x = x := t64 ⟨h1, h2⟩
theorem lt32 {x y : Int} (hx : inI x) (hy : inI y) : Int32.ofInt x < Int32.ofInt y ↔ x < y := by rw [Int32.lt_iff_toInt_lt, t32 hx, t32 hy]
theorem le32 {x y : Int} (hx : inI x) (hy : inI y) : Int32.ofInt x ≤ Int32.ofInt y ↔ x ≤ y := by rw [Int32.le_iff_toInt_le, t32 hx, t32 hy]
theorem eq32 {x y : Int} (hx : inI x) (hy : inI y) : Int32.ofInt x = Int32.ofInt y ↔ x = y := by rw [← Int32.toInt_inj, t32 hx, t32 hy]
theorem lt64 {x y : Int} (hx : inL x) (hy : inL y) : Int64.ofInt x < Int64.ofInt y ↔ x < y := by rw [Int64.lt_iff_toInt_lt, t64 hx, t64 hy]
theorem eq64 {x y : Int} (hx : inL x) (hy : inL y) : Int64.ofInt x = Int64.ofInt y ↔ x = y := by rw [← Int64.toInt_inj, t64 hx, t64 hy]
theorem inI_0 : inI 0 := ⟨by decide, by decide⟩
theorem nn32 {x : Int} (h : inI x) : (Int32.ofInt x).toNatClampNeg = x.toNat := by
  show (Int32.ofInt x).toInt.toNat = x.toNat
  rw [t32 h]
theorem bnd32 {x n : Int} {N : Nat} (h : inI x) (h0 : 0 ≤ x) (h1 : x < n) (hN : N = n.toNat) : ¬ (Int32.ofInt x < 0 ∨ N ≤ (Int32.ofInt x).toNatClampNeg) := by
  rw [nn32 h, hN]
  rintro (q | q)
  · have := (lt32 h inI_0).mp q
    omega
  · omega
theorem lcat_cv (g : Gl) (v : LV) : (cv g v).category = lcat v := by
  rcases v with x | x | r
  · rfl
  · rfl
  · show (rfv g r.2).category = 1
    unfold rfv
    split <;> rfl
theorem lcat_sum (g : Gl) (st : List LV) : ((st.map (cv g)).map fun v => v.category).sum = (st.map lcat).sum := by
  rw [List.map_map]
  congr 1
  exact List.map_congr_left (fun v _ => lcat_cv g v)
/-- locals: what the light list says is held -/
def LcR (g : Gl) (nL : Nat) (ls : Lc) (lr : Array Slot) : Prop := lr.size = nL ∧ lv_wf lr ∧ ∀ (i : Nat) (v : LV), lget ls i = some v → lr[i]? = some (.val (cv g v))
def aL (g : Gl) (ls : Lc) : List (Nat × Value) := (List.range ls.length).filterMap (fun i => (lget ls i).map (fun v => (i, cv g v)))
theorem lget_lt : ∀ {ls : Lc} {i : Nat} {v : LV}, lget ls i = some v → i < ls.length
  | [], i, v, h => by simp [lget] at h
  | a :: t, 0, v, h => by simp
  | a :: t, n + 1, v, h => by
    have := lget_lt (ls := t) (i := n) h
    simp
    omega
theorem mem_aL {g : Gl} {ls : Lc} {i : Nat} {v : LV} (h : lget ls i = some v) : (i, cv g v) ∈ aL g ls := List.mem_filterMap.mpr ⟨i, List.mem_range.mpr (lget_lt h), by rw [h]; rfl⟩
theorem aL_mem {g : Gl} {ls : Lc} {q : Nat × Value} (h : q ∈ aL g ls) : ∃ v, lget ls q.1 = some v ∧ q.2 = cv g v := by
  obtain ⟨i, -, hi⟩ := List.mem_filterMap.mp h
  cases hv : lget ls i with
  | none => rw [hv] at hi; cases hi
  | some v => rw [hv] at hi; cases hi; exact ⟨v, hv, rfl⟩
theorem LcR.has {g : Gl} {nL : Nat} {ls : Lc} {lr : Array Slot} (h : LcR g nL ls lr) : lv_has lr nL (aL g ls) := ⟨h.1, h.2.1, fun q hq => by
  obtain ⟨v, h1, h2⟩ := aL_mem hq
  rw [h2]
  exact h.2.2 _ _ h1⟩
theorem lclr_some {a : Option LV} {u : LV} (h : lclr a = some u) : a = some u ∧ lcat u = 1 := by
  rcases a with _ | (x | x | r)
  · simp [lclr] at h
  · simp [lclr] at h; subst h; exact ⟨rfl, rfl⟩
  · simp [lclr] at h
  · simp [lclr] at h; subst h; exact ⟨rfl, rfl⟩
theorem lget_put : ∀ (ls : Lc) (i : Nat) (v : Option LV) (j : Nat) (u : LV), lget (lput ls i v) j = some u → (j = i ∧ v = some u) ∨ (j ≠ i ∧ lget ls j = some u)
  | [], i, v, j, u, h => by simp [lput, lget] at h
  | a :: t, 0, v, 0, u, h => Or.inl ⟨rfl, by simpa [lput, lget] using h⟩
  | a :: t, 0, v, j + 1, u, h => Or.inr ⟨by omega, by simpa [lput, lget] using h⟩
  | a :: t, n + 1, v, 0, u, h => Or.inr ⟨by omega, by simpa [lput, lget] using h⟩
  | a :: t, n + 1, v, j + 1, u, h => by
    simp only [lput, lget] at h ⊢
    rcases lget_put t n v j u h with ⟨h1, h2⟩ | ⟨h1, h2⟩
    · exact Or.inl ⟨by omega, h2⟩
    · exact Or.inr ⟨by omega, h2⟩
theorem lget_cla : ∀ (ls : Lc) (i j : Nat) (u : LV), lget (lcla ls i) j = some u → lget ls j = some u ∧ (j = i → lcat u = 1)
  | [], i, j, u, h => by simp [lcla, lget] at h
  | a :: t, 0, 0, u, h => by
    simp only [lcla, lget] at h ⊢
    obtain ⟨h1, h2⟩ := lclr_some h
    exact ⟨h1, fun _ => h2⟩
  | a :: t, 0, j + 1, u, h => ⟨by simpa [lcla, lget] using h, by omega⟩
  | a :: t, n + 1, 0, u, h => ⟨by simpa [lcla, lget] using h, by omega⟩
  | a :: t, n + 1, j + 1, u, h => by
    simp only [lcla, lget] at h ⊢
    obtain ⟨h1, h2⟩ := lget_cla t n j u h
    exact ⟨h1, fun z => h2 (by omega)⟩
theorem lget_set1 (ls : Lc) (i : Nat) (v : LV) (j : Nat) (u : LV) (h : lget (lset1 ls i v) j = some u) : (j = i ∧ u = v) ∨ (j ≠ i ∧ lget ls j = some u ∧ ¬ (j + 1 = i ∧ lcat u = 2)) := by
  cases i with
  | zero =>
    rcases lget_put ls 0 _ j u h with ⟨h1, h2⟩ | ⟨h1, h2⟩
    · exact Or.inl ⟨h1, (Option.some.inj h2).symm⟩
    · exact Or.inr ⟨h1, h2, by omega⟩
  | succ n =>
    rcases lget_put (lcla ls n) (n + 1) _ j u h with ⟨h1, h2⟩ | ⟨h1, h2⟩
    · exact Or.inl ⟨h1, (Option.some.inj h2).symm⟩
    · obtain ⟨h3, h4⟩ := lget_cla ls n j u h2
      exact Or.inr ⟨h1, h3, fun z => by have := h4 (by omega); omega⟩
theorem lget_set2 (ls : Lc) (i : Nat) (v : LV) (j : Nat) (u : LV) (h : lget (lset2 ls i v) j = some u) : (j = i ∧ u = v) ∨ (j ≠ i ∧ j ≠ i + 1 ∧ lget ls j = some u ∧ ¬ (j + 1 = i ∧ lcat u = 2)) := by
  rcases lget_put _ (i + 1) _ j u h with ⟨h1, h2⟩ | ⟨h1, h2⟩
  · cases h2
  · rcases lget_set1 ls i v j u h2 with ⟨h3, h4⟩ | ⟨h3, h4, h5⟩
    · exact Or.inl ⟨h3, h4⟩
    · exact Or.inr ⟨h3, h1, h4, h5⟩
theorem LcR.set1 {g : Gl} {nL i : Nat} {ls : Lc} {v : LV} {lr : Array Slot} (h : lv_has lr nL ((i, cv g v) :: (aL g ls).filter (fun q => !(q.1 == i) && !(q.1 + 1 == i && q.2.category == 2)))) : LcR g nL (lset1 ls i v) lr := by
  refine ⟨h.1, h.2.1, fun j u hu => ?_⟩
  rcases lget_set1 ls i v j u hu with ⟨rfl, rfl⟩ | ⟨h1, h2, h3⟩
  · exact h.2.2 _ List.mem_cons_self
  · refine h.2.2 (j, cv g u) (List.mem_cons_of_mem _ (List.mem_filter.mpr ⟨mem_aL h2, ?_⟩))
    simp only [lcat_cv]
    simp only [Bool.and_eq_true, Bool.not_eq_true', beq_eq_false_iff_ne, ne_eq, Bool.and_eq_false_iff]
    refine ⟨h1, ?_⟩
    by_cases q : j + 1 = i
    · right; exact fun z => h3 ⟨q, z⟩
    · left; exact q
theorem LcR.set2 {g : Gl} {nL i : Nat} {ls : Lc} {v : LV} {lr : Array Slot} (h : lv_has lr nL ((i, cv g v) :: (aL g ls).filter (fun q => !(q.1 == i) && (!(q.1 == i + 1) && !(q.1 + 1 == i && q.2.category == 2))))) : LcR g nL (lset2 ls i v) lr := by
  refine ⟨h.1, h.2.1, fun j u hu => ?_⟩
  rcases lget_set2 ls i v j u hu with ⟨rfl, rfl⟩ | ⟨h1, h2, h3, h4⟩
  · exact h.2.2 _ List.mem_cons_self
  · refine h.2.2 (j, cv g u) (List.mem_cons_of_mem _ (List.mem_filter.mpr ⟨mem_aL h3, ?_⟩))
    simp only [lcat_cv]
    simp only [Bool.and_eq_true, Bool.not_eq_true', beq_eq_false_iff_ne, ne_eq, Bool.and_eq_false_iff]
    refine ⟨h1, h2, ?_⟩
    by_cases q : j + 1 = i
    · right; exact fun z => h4 ⟨q, z⟩
    · left; exact q
def okl (S : Sx) (ls : Lc) : Prop := ∀ (i : Nat) (v : LV), lget ls i = some v → okv S v
theorem okl.set1 {S : Sx} {ls : Lc} {i : Nat} {v : LV} (h : okl S ls) (hv : okv S v) : okl S (lset1 ls i v) := fun j u hu => by
  rcases lget_set1 ls i v j u hu with ⟨_, rfl⟩ | ⟨_, h2, _⟩
  · exact hv
  · exact h j u h2
theorem okl.set2 {S : Sx} {ls : Lc} {i : Nat} {v : LV} (h : okl S ls) (hv : okv S v) : okl S (lset2 ls i v) := fun j u hu => by
  rcases lget_set2 ls i v j u hu with ⟨_, rfl⟩ | ⟨_, _, h2, _⟩
  · exact hv
  · exact h j u h2
/-- what holds all along a method's frame -/
def Cx (g : Gl) (own : Nat) (p : Program) (s : State) (m : MethodId) (args : Array Value) (c : Code) (cc : ByteArray) (nL : Nat) : Prop := own < 14 ∧ p.tables.exec = Jvm.exec ∧ c.code = cc ∧ c.maxLocals = nL ∧ s.vm.findClass (cnm own) = some m.cls ∧ (∀ w ∈ lwG, w.before args s = true) ∧ GK g ∧ KN g s
/-- the machine at pc with these locals, stack and heap comes to Qe -/
def LJ (g : Gl) (p : Program) (e : Env) (R : Room) (s : State) (m : MethodId) (args : Array Value) (below : List Frame) (meth : Method) (c : Code) (nL : Nat) (nx0 : Int) (Qe : State → Prop) (pc : Nat) (ls : Lc) (st : List LV) (S : Sx) (h : Hp) : Prop :=
  ∀ (H : Heap) (locs : List Loc) (lr : Array Slot), HR g S h H → SZ g s H → (∀ q ∈ locs, gB g ≤ q.base) → LcR g nL ls lr → (∀ v ∈ st, okv S v) → okl S ls → nx0 ≤ S.1 →
    W p (gL g) e R s m args below meth c H locs (S.1 - nx0).toNat (zz S.1 - zz nx0) Qe (F0 m pc lr (st.map (cv g)))
section OPS
variable {g : Gl} {own : Nat} {p : Program} {e : Env} {R : Room} {s : State} {m : MethodId} {args : Array Value} {below : List Frame} {meth : Method} {c : Code} {cc : ByteArray} {nL : Nat} {nx0 : Int} {Qe : State → Prop} {pc : Nat} {ls : Lc} {st : List LV} {S : Sx} {h : Hp}
theorem zt_const {i : Instr} {x : Int} {n : Nat} (hx : inI x) (C : Cx g own p s m args c cc nL) (hi : (i = .iconst x ∧ n = 1) ∨ (i = .bipush x ∧ n = 2 ∧ -128 ≤ x ∧ x < 128) ∨ (i = .sipush x ∧ n = 3 ∧ -32768 ≤ x ∧ x < 32768)) (hd : decode cc pc = .ok (i, n)) (X : LJ g p e R s m args below meth c nL nx0 Qe (pc + n) ls (LI x :: st) S h) : LJ g p e R s m args below meth c nL nx0 Qe pc ls st S h := by
  intro H locs lr hH hZ hl hL hs hk hn
  have K := X H locs lr hH hZ hl hL (List.forall_mem_cons.mpr ⟨hx, hs⟩) hk hn
  rcases hi with ⟨rfl, rfl⟩ | ⟨rfl, rfl, h1, h2⟩ | ⟨rfl, rfl, h1, h2⟩
  · exact lv_iconst C.2.1 C.2.2.1 hd rfl K
  · refine lv_bipush C.2.1 C.2.2.1 hd ?_ K
    rw [← Int32.toInt_inj, Int8.toInt_toInt32, Int8.toInt_ofInt_of_le h1 h2, t32 hx]
  · refine lv_sipush C.2.1 C.2.2.1 hd ?_ K
    rw [← Int32.toInt_inj, Int16.toInt_toInt32, Int16.toInt_ofInt_of_le h1 h2, t32 hx]
end OPS
