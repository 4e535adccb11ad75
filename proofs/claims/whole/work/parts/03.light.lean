/-! THE LIGHT MACHINE: values are ints, longs and references (type, address; 0 is null), all as Int; a heap is a function of address and place; S holds the next address and the references that are final. T gives, of one instruction, what must hold ahead of it so that k holds behind it. -/
abbrev LV : Type := Int ⊕ (Int ⊕ (Nat × Int))
abbrev LI (x : Int) : LV := Sum.inl x
abbrev LL (x : Int) : LV := Sum.inr (Sum.inl x)
abbrev LR (t : Nat) (a : Int) : LV := Sum.inr (Sum.inr (t, a))
abbrev Hp : Type := Int → Int → Int
abbrev Sx : Type := Int × (Nat → Int → Int → Int)
abbrev Lc : Type := List (Option LV)
/-- when all is made: nothing new, the final references as they are -/
abbrev S0 : Sx := (NX, RC)
/-- launch, class numbers, slots of fields, array classes, first address, addresses, length of the script -/
abbrev Gl : Type := Launch × (Nat → ClassId) × (Nat → Nat → Nat) × (Nat → ClassId) × Nat × (Int → Nat) × Nat
abbrev gL (g : Gl) : Launch := g.1
abbrev gC (g : Gl) : Nat → ClassId := g.2.1
abbrev gI (g : Gl) : Nat → Nat → Nat := g.2.2.1
abbrev gA (g : Gl) : Nat → ClassId := g.2.2.2.1
abbrev gB (g : Gl) : Nat := g.2.2.2.2.1
abbrev gR (g : Gl) : Int → Nat := g.2.2.2.2.2.1
abbrev gN (g : Gl) : Nat := g.2.2.2.2.2.2
def w32 (z : Int) : Int := (Int32.ofInt z).toInt
def w64 (z : Int) : Int := (Int64.ofInt z).toInt
def w8 (z : Int) : Int := (Int32.ofInt z).toInt8.toInt
def iandI (x y : Int) : Int := (Int32.ofInt x &&& Int32.ofInt y).toInt
def iorI (x y : Int) : Int := (Int32.ofInt x ||| Int32.ofInt y).toInt
def ishlI (x y : Int) : Int := (Int32.ofInt x <<< (Int32.ofInt y &&& 31)).toInt
def ishrI (x y : Int) : Int := (Int32.ofInt x >>> (Int32.ofInt y &&& 31)).toInt
def iushrI (x y : Int) : Int := ((Int32.ofInt x).toUInt32 >>> ((Int32.ofInt y).toUInt32 &&& Int32.toUInt32 31)).toInt32.toInt
def lcmpI (x y : Int) : Int := if x > y then 1 else if x = y then 0 else -1
def hup (h : Hp) (a i v : Int) : Hp := fun b j => if b = a ∧ j = i then v else h b j
def sup (r : Nat → Int → Int → Int) (t : Nat) (a i v : Int) : Nat → Int → Int → Int := fun u b j => if u = t ∧ b = a ∧ j = i then v else r u b j
def sclr (r : Nat → Int → Int → Int) (a : Int) : Nat → Int → Int → Int := fun u b j => if b = a then 0 else r u b j
def hclr (h : Hp) (a : Int) : Hp := fun b j => if b = a then 0 else h b j
def hcpy (h : Hp) (a sp b dp n : Int) : Hp := fun c j => if c = b ∧ dp ≤ j ∧ j < dp + n then h a (sp + (j - dp)) else h c j
/-- the length of an array; the script's is the launch's -/
def lnn (g : Gl) (a : Int) : Int := if a = 1 then (gN g : Int) else (SH a).2
def lget : Lc → Nat → Option LV
  | [], _ => none
  | v :: _, 0 => v
  | _ :: t, n + 1 => lget t n
def lclr : Option LV → Option LV
  | some (Sum.inr (Sum.inl _)) => none
  | v => v
def lput : Lc → Nat → Option LV → Lc
  | [], _, _ => []
  | _ :: t, 0, v => v :: t
  | a :: t, n + 1, v => a :: lput t n v
def lcla : Lc → Nat → Lc
  | [], _ => []
  | a :: t, 0 => lclr a :: t
  | a :: t, n + 1 => a :: lcla t n
/-- storing one word; a long just ahead of it is gone -/
def lset1 (ls : Lc) (i : Nat) (v : LV) : Lc := match i with
  | 0 => lput ls 0 (some v)
  | n + 1 => lput (lcla ls n) (n + 1) (some v)
/-- storing a long -/
def lset2 (ls : Lc) (i : Nat) (v : LV) : Lc := lput (lset1 ls i v) (i + 1) none
def lcat : LV → Nat
  | Sum.inr (Sum.inl _) => 2
  | _ => 1
def lent : List LV → Nat → Lc
  | [], n => List.replicate n none
  | v :: t, n => match lcat v with
    | 1 => match n with
      | 0 => []
      | n + 1 => some v :: lent t n
    | _ => match n with
      | n + 2 => some v :: none :: lent t n
      | _ => []
def inI (x : Int) : Prop := -2147483648 ≤ x ∧ x < 2147483648
def inL (x : Int) : Prop := -9223372036854775808 ≤ x ∧ x < 9223372036854775808
def okr (S : Sx) (t : Nat) (x : Int) : Prop := x = 0 ∨ (0 < x ∧ x < S.1 ∧ (SH x).1 = t)
def okv (S : Sx) : LV → Prop
  | Sum.inl x => inI x
  | Sum.inr (Sum.inl x) => inL x
  | Sum.inr (Sum.inr r) => okr S r.1 r.2
def rfv (g : Gl) (x : Int) : Value := if x = 0 then .null else .ref (gR g x)
def cv (g : Gl) : LV → Value
  | Sum.inl x => .int (Int32.ofInt x)
  | Sum.inr (Sum.inl x) => .long (Int64.ofInt x)
  | Sum.inr (Sum.inr r) => rfv g r.2
/-- what a slot of a kind holds (0 int, 1 boolean, 2 long, 3 final reference, 4 reference, 5 byte) -/
def sval (g : Gl) (S : Sx) (h : Hp) (t kd : Nat) (a i : Int) : Value := match kd with
  | 0 => .int (Int32.ofInt (h a i))
  | 1 => .int (Int32.ofInt (h a i))
  | 5 => .int (Int32.ofInt (h a i))
  | 2 => .long (Int64.ofInt (h a i))
  | 3 => rfv g (S.2 t a i)
  | _ => rfv g (h a i)
def sok (S : Sx) (h : Hp) (t : Nat) (kt : Nat × Nat) (a i : Int) : Prop := match kt.1 with
  | 0 => inI (h a i)
  | 1 => h a i = 0 ∨ h a i = 1
  | 5 => -128 ≤ h a i ∧ h a i < 128
  | 2 => inL (h a i)
  | 3 => okr S kt.2 (S.2 t a i)
  | _ => okr S kt.2 (h a i)
/-- the class of an array (those that lay there before have classes of their own); what the machine knows of it -/
def gK (g : Gl) (a : Int) : ClassId := gA g (if a < 4 then 100 + a.toNat else (SH a).1)
def AV (v : VmData) (a : Int) : Prop := v ≠ .unknown ∧ (∀ k, v ≠ .statics k) ∧ (4 ≤ a → v = .none)
def AZ (n : Nat) (l a : Int) : Prop := l.toNat ≤ n ∧ n.toInt32 = Int32.ofInt l ∧ (4 ≤ a → n = l.toNat)
theorem AZ.of {n : Nat} {l a : Int} (e : n = l.toNat) (l0 : 0 ≤ l) : AZ n l a := by
  refine ⟨by omega, ?_, fun _ => e⟩
  have z : l = ((l.toNat : Nat) : Int) := by omega
  rw [e]
  conv => rhs; rw [z]
  rfl
theorem AV_0 {a : Int} : AV .none a := ⟨fun z => (by cases z), fun _ z => (by cases z), fun _ => rfl⟩
theorem gK_4 {g : Gl} {a : Int} (h : 4 ≤ a) : gK g a = gA g (SH a).1 := by unfold gK; rw [if_neg (by omega)]
/-- the cell at a light address -/
def CR (g : Gl) (S : Sx) (h : Hp) (H : Heap) (a : Int) : Prop :=
  if (SH a).1 < 20 then t_OB (gR g a) (gC g (SH a).1) (nf (SH a).1) (gI g (SH a).1) H (fun k => sval g S h (SH a).1 (fkt (SH a).1 k).1 a k) ∧ ∀ k : Nat, k < nf (SH a).1 → sok S h (SH a).1 (fkt (SH a).1 k) a k
  else (∃ cell : Cell, H[gR g a]? = some cell ∧ cell.cls = gK g a ∧ AV cell.vm a ∧ AZ cell.slots.size (lnn g a) a ∧ ∀ i : Nat, i < (lnn g a).toNat → cell.slots[i]? = some (sval g S h (SH a).1 (akd (SH a).1).1 a i)) ∧ ∀ i : Nat, i < (lnn g a).toNat → sok S h (SH a).1 (akd (SH a).1) a i
def HR (g : Gl) (S : Sx) (h : Hp) (H : Heap) : Prop := 4 ≤ S.1 ∧ H.size = gB g + (S.1 - 4).toNat ∧ ∀ a : Int, 0 < a → a < S.1 → CR g S h H a
/-- how much room the cells below an address may take -/
def zz (n : Int) : Nat := 3000 * (min n 608).toNat + 21000 * (n - 608).toNat
def GK (g : Gl) : Prop := (∀ a : Int, 4 ≤ a → gR g a = gB g + (a - 4).toNat) ∧ gR g 1 < gB g ∧ gR g 2 < gB g ∧ gR g 3 < gB g ∧ gN g ≤ 3072
/-- words that don't keep by themselves: nest mates' constructors, the array over Pattern -/
def NK (s : State) : Prop := va_Nw (.methodLinkNest "RuleNet" 44 i6_init.1 "RuleNet") s ∧ va_Nw (.methodLinkNest "RuleNet$Pattern" 26 i0_init.1 "RuleNet") s ∧ va_Nw (.methodLinkNest "RuleNet" 47 i0_init.1 "RuleNet") s ∧ va_AO "RuleNet$Pattern" s
def KN (g : Gl) (s : State) : Prop := NK s ∧ (∀ t : Nat, t < 11 → u_Kn s (cnm t) (fT t) (nf t) (gC g t) (gI g t)) ∧ (∀ t : Nat, 20 ≤ t → t < 25 → ArrOfT s (gA g t) (aty t) ∧ va_RA s (gA g t) (aty t)) ∧ ∀ j : Nat, 0 < j → j < 4 → ArrOfT s (gA g (100 + j)) .int
def SZ (g : Gl) (s : State) (H : Heap) : Prop := va_Z "RuleNet$Matcher" "ORDER_COUNTS" "[I" (.ref (gR g 2)) (fun q => gB g ≤ q) s H ∧ va_Z "RuleNet$Matcher" "ORDERS" "[I" (.ref (gR g 3)) (fun q => gB g ≤ q) s H
def RL (g : Gl) (S : Sx) (h : Hp) (U : State) : Prop := HR g S h U.heap ∧ KN g U ∧ SZ g U U.heap
/-- the words that stay true as classes warm -/
def lwG : List Cond := lw_tbl.filter goodWord
def wsO (mi : MI) : List Cond := Cond.code mi.1 mi.2.1 mi.2.2.1 mi.2.2.2 :: lwG
def rmO (d : Nat) (S S' : Sx) : Room := { frames := d, cells := (S'.1 - S.1).toNat, slots := zz S'.1 - zz S.1, locals := 32 * d }
def rvO (g : Gl) (ret : Option FieldType) (r : LV) : Option Value := match ret with
  | none => none
  | some _ => some (cv g r)
def PcO (g : Gl) (as : List LV) (S : Sx) (h : Hp) : Array Value → State → Prop := fun a U => a = (as.map (cv g)).toArray ∧ RL g S h U
def QcO (g : Gl) (ret : Option FieldType) (S' : Sx) (Q : LV → Hp → Prop) : Array Value → State → Outcome → State → Prop := fun _ _ o t => ∃ (r : LV) (h' : Hp), o = .returned (rvO g ret r) ∧ okv S' r ∧ RL g S' h' t ∧ Q r h'
/-- THE CONTRACT of a method in light words: from arguments, S and h it returns, with S', an answer and a heap of which Q holds; d bounds the depth of calls -/
def Good (g : Gl) (d : Nat) (mi : MI) (as : List LV) (S : Sx) (h : Hp) (S' : Sx) (Q : LV → Hp → Prop) : Prop :=
  GK g → (∀ v ∈ as, okv S v) → Met (gL g) mi.1 (wsO mi) (rmO d S S') (PcO g as S h) (QcO g mi.2.2.2 S' Q) (S'.1 - S.1).toNat (zz S'.1 - zz S.1) (fun q => gB g ≤ q)
def retI (Q : Int → Hp → Prop) : LV → Hp → Prop := fun r h => match r with
  | Sum.inl x => Q x h
  | _ => False
def retL (Q : Int → Hp → Prop) : LV → Hp → Prop := fun r h => match r with
  | Sum.inr (Sum.inl x) => Q x h
  | _ => False
def retR (t : Nat) (Q : Int → Hp → Prop) : LV → Hp → Prop := fun r h => match r with
  | Sum.inr (Sum.inr q) => q.1 = t ∧ Q q.2 h
  | _ => False
def retV (Q : Hp → Prop) : LV → Hp → Prop := fun _ h => Q h
def ret_ (rk : Nat) (k : Lc → List LV → Sx → Hp → Prop) (ls : Lc) (rest : List LV) (S : Sx) : LV → Hp → Prop := match rk with
  | 0 => retV (fun h => k ls rest S h)
  | 1 => retI (fun x h => k ls (LI x :: rest) S h)
  | 2 => retL (fun x h => k ls (LL x :: rest) S h)
  | t + 3 => retR t (fun x h => k ls (LR t x :: rest) S h)
def swV (x : Int) (J : Int → Prop) : Int → List Int → Prop
  | _, [] => True
  | lo, o :: os => (x = lo → J o) ∧ swV x J (lo + 1) os
def atc : ArrayType → Nat
  | .int => 20
  | .long => 21
  | .boolean => 22
  | .byte => 23
  | _ => 99
section T
variable (g : Gl) (d own rk : Nat) (ini : Bool) (nx1 : Int) (J : Nat → Lc → List LV → Sx → Hp → Prop) (Rt : LV → Sx → Hp → Prop)
def tgt (pc : Nat) (off : Int) : Nat := ((pc : Int) + off).toNat
def Tif (c : ClassFile.Cond) (x y : Int) (A B : Prop) : Prop := match c with
  | .eq => (x = y → A) ∧ (¬ x = y → B)
  | .ne => (¬ x = y → A) ∧ (x = y → B)
  | .lt => (x < y → A) ∧ (¬ x < y → B)
  | .ge => (y ≤ x → A) ∧ (¬ y ≤ x → B)
  | .gt => (y < x → A) ∧ (¬ y < x → B)
  | .le => (x ≤ y → A) ∧ (¬ x ≤ y → B)
def Tget (e : Nat × Int × Nat × Nat) (k : Lc → List LV → Sx → Hp → Prop) (ls : Lc) (st : List LV) (S : Sx) (h : Hp) : Prop := match st with
  | Sum.inr (Sum.inr r) :: st => match r.1 == e.1 with
    | true => r.2 ≠ 0 ∧ (match e.2.2.1 with
      | 0 => k ls (LI (h r.2 e.2.1) :: st) S h
      | 1 => (h r.2 e.2.1 = 0 ∨ h r.2 e.2.1 = 1) → k ls (LI (h r.2 e.2.1) :: st) S h
      | 2 => k ls (LL (h r.2 e.2.1) :: st) S h
      | 3 => k ls (LR e.2.2.2 (S.2 e.1 r.2 e.2.1) :: st) S h
      | _ => k ls (LR e.2.2.2 (h r.2 e.2.1) :: st) S h)
    | false => False
  | _ => False
def Tput (e : Nat × Int × Nat × Nat) (k : Lc → List LV → Sx → Hp → Prop) (ls : Lc) (st : List LV) (S : Sx) (h : Hp) : Prop := match st with
  | v :: Sum.inr (Sum.inr r) :: st => match r.1 == e.1 with
    | true => r.2 ≠ 0 ∧ (match e.2.2.1, v with
      | 0, Sum.inl x => k ls st S (hup h r.2 e.2.1 x)
      | 1, Sum.inl x => (x = 0 ∨ x = 1) ∧ k ls st S (hup h r.2 e.2.1 x)
      | 2, Sum.inr (Sum.inl x) => k ls st S (hup h r.2 e.2.1 x)
      | 3, Sum.inr (Sum.inr q) => match ini && own == e.1 && (q.1 == e.2.2.2) with
        | true => k ls st (S.1, sup S.2 e.1 r.2 e.2.1 q.2) h
        | false => False
      | 4, Sum.inr (Sum.inr q) => match q.1 == e.2.2.2 with
        | true => k ls st S (hup h r.2 e.2.1 q.2)
        | false => q.2 = 0 ∧ k ls st S (hup h r.2 e.2.1 0)
      | _, _ => False)
    | false => False
  | _ => False
def Tald (t : Nat) (k : LV → Prop) (S : Sx) (h : Hp) (q : Nat × Int) (i : Int) : Prop := match q.1 == t with
  | true => q.2 ≠ 0 ∧ 0 ≤ i ∧ i < lnn g q.2 ∧ (match t with
    | 20 => k (LI (h q.2 i))
    | 21 => k (LL (h q.2 i))
    | 22 => (h q.2 i = 0 ∨ h q.2 i = 1) → k (LI (h q.2 i))
    | 23 => k (LI (h q.2 i))
    | _ => k (LR 6 (S.2 24 q.2 i)))
  | false => False
def Targs (n : Nat) (st : List LV) (ct : Nat) (k : List LV → List LV → Prop) : Prop := match (st.take n).reverse with
  | Sum.inr (Sum.inr r) :: as => match r.1 == ct && Nat.ble (((st.drop n).map lcat).sum) 8 && (as.length + 1 == n) with
    | true => r.2 ≠ 0 ∧ k (Sum.inr (Sum.inr r) :: as) (st.drop n)
    | false => False
  | _ => False
def T (pc : Nat) (i : Instr) (k : Lc → List LV → Sx → Hp → Prop) (ls : Lc) (st : List LV) (S : Sx) (h : Hp) : Prop := match i with
  | .aload_n n => match lget ls n.val with | some (Sum.inr (Sum.inr r)) => k ls (Sum.inr (Sum.inr r) :: st) S h | _ => False
  | .aload n => match lget ls n with | some (Sum.inr (Sum.inr r)) => k ls (Sum.inr (Sum.inr r) :: st) S h | _ => False
  | .iload_n n => match lget ls n.val with | some (Sum.inl x) => k ls (Sum.inl x :: st) S h | _ => False
  | .iload n => match lget ls n with | some (Sum.inl x) => k ls (Sum.inl x :: st) S h | _ => False
  | .lload_n n => match lget ls n.val with | some (Sum.inr (Sum.inl x)) => k ls (Sum.inr (Sum.inl x) :: st) S h | _ => False
  | .lload n => match lget ls n with | some (Sum.inr (Sum.inl x)) => k ls (Sum.inr (Sum.inl x) :: st) S h | _ => False
  | .istore_n n => match st with | Sum.inl x :: st => k (lset1 ls n.val (Sum.inl x)) st S h | _ => False
  | .istore n => match st with | Sum.inl x :: st => k (lset1 ls n (Sum.inl x)) st S h | _ => False
  | .lstore_n n => match st with | Sum.inr (Sum.inl x) :: st => k (lset2 ls n.val (Sum.inr (Sum.inl x))) st S h | _ => False
  | .lstore n => match st with | Sum.inr (Sum.inl x) :: st => k (lset2 ls n (Sum.inr (Sum.inl x))) st S h | _ => False
  | .astore_n n => match st with | Sum.inr (Sum.inr r) :: st => k (lset1 ls n.val (Sum.inr (Sum.inr r))) st S h | _ => False
  | .astore n => match st with | Sum.inr (Sum.inr r) :: st => k (lset1 ls n (Sum.inr (Sum.inr r))) st S h | _ => False
  | .iinc n c => match lget ls n with | some (Sum.inl x) => k (lset1 ls n (Sum.inl (w32 (x + c)))) st S h | _ => False
  | .iconst c => k ls (Sum.inl c :: st) S h
  | .bipush c => k ls (Sum.inl c :: st) S h
  | .sipush c => k ls (Sum.inl c :: st) S h
  | .lconst c => k ls (Sum.inr (Sum.inl (c.val : Int)) :: st) S h
  | .aconst_null => k ls (LR 0 0 :: st) S h
  | .ldc2_w n => match cpl own n with | some q => k ls (Sum.inr (Sum.inl q) :: st) S h | none => False
  | .getstatic n => match cps own n with | some q => k ls (LR 20 q :: st) S h | none => False
  | .iadd => match st with | Sum.inl y :: Sum.inl x :: st => k ls (Sum.inl (w32 (x + y)) :: st) S h | _ => False
  | .isub => match st with | Sum.inl y :: Sum.inl x :: st => k ls (Sum.inl (w32 (x - y)) :: st) S h | _ => False
  | .imul => match st with | Sum.inl y :: Sum.inl x :: st => k ls (Sum.inl (w32 (x * y)) :: st) S h | _ => False
  | .idiv => match st with | Sum.inl y :: Sum.inl x :: st => y ≠ 0 ∧ k ls (Sum.inl (w32 (Int.tdiv x y)) :: st) S h | _ => False
  | .irem => match st with | Sum.inl y :: Sum.inl x :: st => y ≠ 0 ∧ k ls (Sum.inl (w32 (x - Int.tdiv x y * y)) :: st) S h | _ => False
  | .iand => match st with | Sum.inl y :: Sum.inl x :: st => k ls (Sum.inl (iandI x y) :: st) S h | _ => False
  | .ior => match st with | Sum.inl y :: Sum.inl x :: st => k ls (Sum.inl (iorI x y) :: st) S h | _ => False
  | .ishl => match st with | Sum.inl y :: Sum.inl x :: st => k ls (Sum.inl (ishlI x y) :: st) S h | _ => False
  | .ishr => match st with | Sum.inl y :: Sum.inl x :: st => k ls (Sum.inl (ishrI x y) :: st) S h | _ => False
  | .iushr => match st with | Sum.inl y :: Sum.inl x :: st => k ls (Sum.inl (iushrI x y) :: st) S h | _ => False
  | .ladd => match st with | Sum.inr (Sum.inl y) :: Sum.inr (Sum.inl x) :: st => k ls (Sum.inr (Sum.inl (w64 (x + y))) :: st) S h | _ => False
  | .lsub => match st with | Sum.inr (Sum.inl y) :: Sum.inr (Sum.inl x) :: st => k ls (Sum.inr (Sum.inl (w64 (x - y))) :: st) S h | _ => False
  | .lmul => match st with | Sum.inr (Sum.inl y) :: Sum.inr (Sum.inl x) :: st => k ls (Sum.inr (Sum.inl (w64 (x * y))) :: st) S h | _ => False
  | .ldiv => match st with | Sum.inr (Sum.inl y) :: Sum.inr (Sum.inl x) :: st => y ≠ 0 ∧ k ls (Sum.inr (Sum.inl (w64 (Int.tdiv x y))) :: st) S h | _ => False
  | .lrem => match st with | Sum.inr (Sum.inl y) :: Sum.inr (Sum.inl x) :: st => y ≠ 0 ∧ k ls (Sum.inr (Sum.inl (w64 (x - Int.tdiv x y * y))) :: st) S h | _ => False
  | .lneg => match st with | Sum.inr (Sum.inl x) :: st => k ls (Sum.inr (Sum.inl (w64 (-x))) :: st) S h | _ => False
  | .lcmp => match st with | Sum.inr (Sum.inl y) :: Sum.inr (Sum.inl x) :: st => k ls (Sum.inl (lcmpI x y) :: st) S h | _ => False
  | .i2l => match st with | Sum.inl x :: st => k ls (Sum.inr (Sum.inl x) :: st) S h | _ => False
  | .l2i => match st with | Sum.inr (Sum.inl x) :: st => k ls (Sum.inl (w32 x) :: st) S h | _ => False
  | .i2b => match st with | Sum.inl x :: st => k ls (Sum.inl (w8 x) :: st) S h | _ => False
  | .dup => match st with | v :: st => (match lcat v with | 1 => k ls (v :: v :: st) S h | _ => False) | _ => False
  | .pop => match st with | v :: st => (match lcat v with | 1 => k ls st S h | _ => False) | _ => False
  | .dup2 => match st with | v :: w :: st => (match lcat v, lcat w with | 1, 1 => k ls (v :: w :: v :: w :: st) S h | _, _ => False) | _ => False
  | .ifCond c off => match st with | Sum.inl x :: st => Tif c x 0 (J (tgt pc off) ls st S h) (k ls st S h) | _ => False
  | .if_icmp c off => match st with | Sum.inl y :: Sum.inl x :: st => Tif c x y (J (tgt pc off) ls st S h) (k ls st S h) | _ => False
  | .if_acmp c off => match st with
    | Sum.inr (Sum.inr q) :: Sum.inr (Sum.inr r) :: st => (q.2 = 0 ∨ 4 ≤ q.2) ∧ (r.2 = 0 ∨ 4 ≤ r.2) ∧ (match c with
        | .eq => (r.2 = q.2 → J (tgt pc off) ls st S h) ∧ (¬ r.2 = q.2 → k ls st S h)
        | .ne => (¬ r.2 = q.2 → J (tgt pc off) ls st S h) ∧ (r.2 = q.2 → k ls st S h))
    | _ => False
  | .ifnull off => match st with | Sum.inr (Sum.inr r) :: st => (r.2 = 0 → J (tgt pc off) ls st S h) ∧ (¬ r.2 = 0 → k ls st S h) | _ => False
  | .ifnonnull off => match st with | Sum.inr (Sum.inr r) :: st => (¬ r.2 = 0 → J (tgt pc off) ls st S h) ∧ (r.2 = 0 → k ls st S h) | _ => False
  | .goto off => J (tgt pc off) ls st S h
  | .tableswitch df lo hi offs => match st with | Sum.inl x :: st => ((x < lo ∨ hi < x) → J (tgt pc df) ls st S h) ∧ swV x (fun o => J (tgt pc o) ls st S h) lo offs.toList | _ => False
  | .getfield n => match cpf own n with | some e => Tget e k ls st S h | none => False
  | .putfield n => match cpf own n with | some e => Tput own ini e k ls st S h | none => False
  | .iaload => match st with | Sum.inl i :: Sum.inr (Sum.inr q) :: st => Tald g 20 (fun v => k ls (v :: st) S h) S h q i | _ => False
  | .laload => match st with | Sum.inl i :: Sum.inr (Sum.inr q) :: st => Tald g 21 (fun v => k ls (v :: st) S h) S h q i | _ => False
  | .baload => match st with
    | Sum.inl i :: Sum.inr (Sum.inr q) :: st => (match q.1 == 22 with
        | true => Tald g 22 (fun v => k ls (v :: st) S h) S h q i
        | false => Tald g 23 (fun v => k ls (v :: st) S h) S h q i)
    | _ => False
  | .aaload => match st with | Sum.inl i :: Sum.inr (Sum.inr q) :: st => Tald g 24 (fun v => k ls (v :: st) S h) S h q i | _ => False
  | .iastore => match st with
    | Sum.inl x :: Sum.inl i :: Sum.inr (Sum.inr q) :: st => (match q.1 == 20 with
        | true => 4 ≤ q.2 ∧ 0 ≤ i ∧ i < lnn g q.2 ∧ k ls st S (hup h q.2 i x)
        | false => False)
    | _ => False
  | .lastore => match st with
    | Sum.inr (Sum.inl x) :: Sum.inl i :: Sum.inr (Sum.inr q) :: st => (match q.1 == 21 with
        | true => q.2 ≠ 0 ∧ 0 ≤ i ∧ i < lnn g q.2 ∧ k ls st S (hup h q.2 i x)
        | false => False)
    | _ => False
  | .bastore => match st with
    | Sum.inl x :: Sum.inl i :: Sum.inr (Sum.inr q) :: st => (match q.1 == 22 with
        | true => q.2 ≠ 0 ∧ 0 ≤ i ∧ i < lnn g q.2 ∧ (x = 0 ∨ x = 1) ∧ k ls st S (hup h q.2 i x)
        | false => match q.1 == 23 with
          | true => q.2 ≠ 0 ∧ 0 ≤ i ∧ i < lnn g q.2 ∧ (-128 ≤ x ∧ x < 128) ∧ k ls st S (hup h q.2 i x)
          | false => False)
    | _ => False
  | .aastore => match st with
    | Sum.inr (Sum.inr r) :: Sum.inl i :: Sum.inr (Sum.inr q) :: st => (match q.1 == 24 && r.1 == 6 with
        | true => q.2 ≠ 0 ∧ r.2 ≠ 0 ∧ 0 ≤ i ∧ i < lnn g q.2 ∧ k ls st (S.1, sup S.2 24 q.2 i r.2) h
        | false => False)
    | _ => False
  | .arraylength => match st with
    | Sum.inr (Sum.inr q) :: st => (match Nat.ble 20 q.1 && Nat.ble q.1 24 with
        | true => q.2 ≠ 0 ∧ k ls (Sum.inl (lnn g q.2) :: st) S h
        | false => False)
    | _ => False
  | .new n => match cpc own n with | some q => (SH S.1).1 = q ∧ S.1 + 1 ≤ nx1 ∧ k ls (LR q S.1 :: st) (S.1 + 1, sclr S.2 S.1) (hclr h S.1) | none => False
  | .newarray a => match st with | Sum.inl n :: st => SH S.1 = (atc a, n) ∧ atc a < 24 ∧ 0 ≤ n ∧ S.1 + 1 ≤ nx1 ∧ k ls (LR (atc a) S.1 :: st) (S.1 + 1, sclr S.2 S.1) (hclr h S.1) | _ => False
  | .anewarray n => match cpc own n, st with | some q, Sum.inl n :: st => q = 6 ∧ SH S.1 = (24, n) ∧ 0 ≤ n ∧ S.1 + 1 ≤ nx1 ∧ k ls (LR 24 S.1 :: st) (S.1 + 1, sclr S.2 S.1) (hclr h S.1) | _, _ => False
  | .invokevirtual n => match cpm own n with
    | some (0, m, r, ct, mi) => Targs m st ct (fun as rest => S.1 ≤ nx1 ∧ Good g d mi as S h S (ret_ r k ls rest S))
    | _ => False
  | .invokestatic n => match cpm own n with
    | some (1, m, r, _, mi) => (match Nat.ble (((st.drop m).map lcat).sum) 8 && ((st.take m).length == m) with
      | true => S.1 ≤ nx1 ∧ Good g d mi (st.take m).reverse S h S (ret_ r k ls (st.drop m) S)
      | false => False)
    | some (4, _) => (match st with
      | Sum.inl y :: Sum.inl x :: st => (match Nat.ble ((st.map lcat).sum) 8 with | true => S.1 ≤ nx1 ∧ k ls (Sum.inl (max x y) :: st) S h | false => False)
      | _ => False)
    | some (5, _) => (match st with
      | Sum.inl y :: Sum.inl x :: st => (match Nat.ble ((st.map lcat).sum) 8 with | true => S.1 ≤ nx1 ∧ k ls (Sum.inl (min x y) :: st) S h | false => False)
      | _ => False)
    | some (6, _) => (match st with
      | Sum.inr (Sum.inl y) :: Sum.inr (Sum.inl x) :: st => (match Nat.ble ((st.map lcat).sum) 8 with | true => S.1 ≤ nx1 ∧ k ls (Sum.inr (Sum.inl (max x y)) :: st) S h | false => False)
      | _ => False)
    | some (7, _) => (match st with
      | Sum.inr (Sum.inl x) :: st => (match Nat.ble ((st.map lcat).sum) 8 with | true => S.1 ≤ nx1 ∧ k ls (Sum.inr (Sum.inl (if 0 < x then x else w64 (-x))) :: st) S h | false => False)
      | _ => False)
    | _ => match cpa own n, st with
      | some _, Sum.inl c :: Sum.inl dp :: Sum.inr (Sum.inr r) :: Sum.inl sp :: Sum.inr (Sum.inr q) :: [] => (match q.1 == 20 && r.1 == 20 with
        | true => 4 ≤ q.2 ∧ 4 ≤ r.2 ∧ 0 ≤ sp ∧ 0 ≤ dp ∧ 0 ≤ c ∧ sp + c ≤ lnn g q.2 ∧ dp + c ≤ lnn g r.2 ∧ k ls [] S (hcpy h q.2 sp r.2 dp c)
        | false => False)
      | _, _ => False
  | .invokespecial n => match cpm own n with
    | some (2, m, 0, ct, mi) => Targs m st ct (fun as rest => ∃ S' : Sx, S.1 ≤ S'.1 ∧ S'.1 ≤ nx1 ∧ Good g d mi as S h S' (retV (fun h' => k ls rest S' h')))
    | some (3, m, 0, ct, mi) => Targs m st ct (fun as rest => ∃ S' : Sx, S.1 ≤ S'.1 ∧ S'.1 ≤ nx1 ∧ Good g d mi as S h S' (retV (fun h' => k ls rest S' h')))
    | _ => match cpo own n, st with
      | some _, Sum.inr (Sum.inr r) :: st => (match Nat.ble ((st.map lcat).sum) 8 with
        | true => r.2 ≠ 0 ∧ k ls st S h
        | false => False)
      | _, _ => False
  | .ireturn => match rk, st with
    | 1, [Sum.inl x] => Rt (Sum.inl x) S h
    | 9, [Sum.inl x] => (x = 0 ∨ x = 1) ∧ Rt (Sum.inl x) S h
    | _, _ => False
  | .lreturn => match rk, st with
    | 2, [Sum.inr (Sum.inl x)] => Rt (Sum.inr (Sum.inl x)) S h
    | _, _ => False
  | .areturn => match rk, st with
    | 6, [Sum.inr (Sum.inr r)] => (match r.1 == 6 with
      | true => Rt (LR 6 r.2) S h
      | false => r.2 = 0 ∧ Rt (LR 6 0) S h)
    | _, _ => False
  | .return_ => match rk, st with
    | 0, [] => Rt (Sum.inl 0) S h
    | _, _ => False
  | _ => False
def dropTo (pc : Nat) : List (Nat × Instr × Nat) → List (Nat × Instr × Nat)
  | [] => []
  | q :: r => match q.1 == pc with
    | true => q :: r
    | false => dropTo pc r
def lmsk : List Bool → Lc → Lc
  | true :: bs, v :: ls => v :: lmsk bs ls
  | false :: bs, _ :: ls => none :: lmsk bs ls
  | _, _ => []
variable (cd : List (Nat × Instr × Nat)) (cs : List (Nat × List Bool)) (K : Nat → Lc → List LV → Sx → Hp → Prop)
noncomputable def wB (r : List (Nat × Instr × Nat)) : Lc → List LV → Sx → Hp → Prop :=
  List.rec (motive := fun _ => Lc → List LV → Sx → Hp → Prop) (fun _ _ _ _ => False) (fun q _ k ls st S h => match cs.lookup q.1 with
    | some b => K q.1 (lmsk b ls) st S h
    | none => T g d own rk ini nx1 J Rt q.1 q.2.1 k ls st S h) r
noncomputable def wJ (n : Nat) : Nat → Lc → List LV → Sx → Hp → Prop :=
  Nat.rec (motive := fun _ => Nat → Lc → List LV → Sx → Hp → Prop) K (fun _ ih pc => wB g d own rk ini nx1 ih Rt cs K (dropTo pc cd)) n
/-- a stretch from pc on, over its first instruction whatever cs says, to returns and to the places in cs -/
noncomputable def w0 (n pc : Nat) (ls : Lc) (st : List LV) (S : Sx) (h : Hp) : Prop := match dropTo pc cd with
  | q :: r => T g d own rk ini nx1 (wJ g d own rk ini nx1 Rt cd cs K n) Rt q.1 q.2.1 (wB g d own rk ini nx1 (wJ g d own rk ini nx1 Rt cd cs K n) Rt cs K r) ls st S h
  | [] => False
end T
