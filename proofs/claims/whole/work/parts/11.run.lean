/-! THE LIGHT MACHINE IS SOUND, 7: one instruction, a stretch, a method -/
/-- what decode says of an instruction beside its name -/
def okI (nL pc : Nat) (i : Instr) (len : Nat) : Bool := match i with
  | .iconst x => decide (-128 ≤ x) && decide (x < 128) && len == 1
  | .bipush x => decide (-128 ≤ x) && decide (x < 128) && len == 2
  | .sipush x => decide (-32768 ≤ x) && decide (x < 32768) && len == 3
  | .aload _ => len == 2
  | .iload _ => len == 2
  | .lload _ => len == 2
  | .astore n => len == 2 && decide (n < nL)
  | .istore n => len == 2 && decide (n < nL)
  | .lstore n => len == 2 && decide (n + 1 < nL)
  | .astore_n n => len == 1 && decide (n.val < nL)
  | .istore_n n => len == 1 && decide (n.val < nL)
  | .lstore_n n => len == 1 && decide (n.val + 1 < nL)
  | .iinc n _ => len == 3 && decide (n < nL)
  | .ldc2_w n => len == 3 && decide (n < 1000)
  | .getstatic n => len == 3 && decide (n < 1000)
  | .new n => len == 3 && decide (n < 1000)
  | .anewarray n => len == 3 && decide (n < 1000)
  | .newarray _ => len == 2
  | .invokespecial n => len == 3 && decide (n < 1000)
  | .invokestatic n => len == 3 && decide (n < 1000)
  | .invokevirtual _ => len == 3
  | .getfield _ => len == 3
  | .putfield _ => len == 3
  | .ifCond _ o => len == 3 && decide (0 ≤ (pc : Int) + o)
  | .if_icmp _ o => len == 3 && decide (0 ≤ (pc : Int) + o)
  | .if_acmp _ o => len == 3 && decide (0 ≤ (pc : Int) + o)
  | .ifnull o => len == 3 && decide (0 ≤ (pc : Int) + o)
  | .ifnonnull o => len == 3 && decide (0 ≤ (pc : Int) + o)
  | .goto o => len == 3 && decide (0 ≤ (pc : Int) + o)
  | .tableswitch df lo hi offs => decide (0 ≤ (pc : Int) + df) && offs.toList.all (fun o => decide (0 ≤ (pc : Int) + o)) && decide (hi - lo < offs.size)
  | _ => len == 1
theorem sh_pos (a : Int) : 0 ≤ (SH a).2 := by
  have key : ∀ (l : List (Nat × Int)) (i : Nat), (∀ q ∈ l, 0 ≤ q.2) → 0 ≤ (l.getD i (99, 0)).2 := fun l i h => by
    rw [List.getD_eq_getElem?_getD]
    cases hi : l[i]? with
    | none => exact Int.le_refl _
    | some q => exact h q (List.mem_of_getElem? hi)
  unfold SH
  split
  · exact key _ _ (by decide)
  · split
    · exact key _ _ (by decide)
    · exact key _ _ (by decide)
theorem lnn_ok {g : Gl} (hG : GK g) (a : Int) : inI (lnn g a) ∧ 0 ≤ lnn g a := by
  unfold lnn
  split
  · have := hG.2.2.2.2
    exact ⟨⟨by omega, by omega⟩, by omega⟩
  · have h1 := sh_pos a
    have h2 : (SH a).2 ≤ 21000 := by
      unfold SH
      split
      · exact Int.le_trans (getD_le (B := 3000) (by decide) (by decide)) (by decide)
      · split
        · exact Int.le_trans (getD_le (B := 3000) (by decide) (by decide)) (by decide)
        · exact getD_le (by decide) (by decide)
    exact ⟨⟨by omega, by omega⟩, h1⟩
section RUN
variable {g : Gl} {own : Nat} {p : Program} {e : Env} {R : Room} {s : State} {m : MethodId} {args : Array Value} {below : List Frame} {meth : Method} {c : Code} {cc : ByteArray} {nL : Nat} {nx0 nx1 : Int} {Qe : State → Prop} {d : Nat}
theorem zt_acmp_eq {pc : Nat} {ls : Lc} {st : List LV} {S : Sx} {h : Hp} {q r : Nat × Int} {off : Int} (C : Cx g own p s m args c cc nL) (h0 : 0 ≤ (pc : Int) + off) (h1 : q.2 = 0 ∨ 4 ≤ q.2) (h2 : r.2 = 0 ∨ 4 ≤ r.2) (hd : decode cc pc = .ok (.if_acmp .eq off, 3)) (hA : r.2 = q.2 → LJ g p e R s m args below meth c nL nx0 Qe (tgt pc off) ls st S h) (hB : ¬ r.2 = q.2 → LJ g p e R s m args below meth c nL nx0 Qe (pc + 3) ls st S h) : LJ g p e R s m args below meth c nL nx0 Qe pc ls (Sum.inr (Sum.inr q) :: Sum.inr (Sum.inr r) :: st) S h := by
  intro H locs lr hH hZ hl hL hs hk hn
  have a1 := List.forall_mem_cons.mp hs
  have a2 := List.forall_mem_cons.mp a1.2
  have hG := C.2.2.2.2.2.2.1
  have e1 : ∀ x : Int, rfv g x = va_rf (if x = 0 then none else some (gR g x)) := fun x => by
    unfold rfv
    split <;> rfl
  have inj : ((if r.2 = 0 then none else some (gR g r.2)) = (if q.2 = 0 then none else some (gR g q.2))) ↔ r.2 = q.2 := by
    constructor
    · intro z
      rcases h1 with z1 | z1
      · rw [if_pos z1] at z
        by_cases z2 : r.2 = 0
        · rw [z1, z2]
        · rw [if_neg z2] at z; cases z
      · rw [if_neg (show ¬ q.2 = 0 by omega)] at z
        rcases h2 with z2 | z2
        · rw [if_pos z2] at z; cases z
        · rw [if_neg (show ¬ r.2 = 0 by omega)] at z
          have z := Option.some.inj z
          rw [hG.1 _ z1, hG.1 _ z2] at z
          omega
    · intro z; rw [z]
  rw [List.map_cons, List.map_cons]
  simp only [cv]
  rw [e1, e1]
  exact lv_acmp_eq C.2.1 C.2.2.1 hd (tgt_eq h0 rfl) (fun z => hA (inj.mp z) H locs lr hH hZ hl hL a2.2 hk hn) (fun z => hB (fun y => z (inj.mpr y)) H locs lr hH hZ hl hL a2.2 hk hn)
theorem Targs_use {n ct : Nat} {st : List LV} {k : List LV → List LV → Prop} (hT : Targs n st ct k) : ∃ (r : Nat × Int) (as : List LV), st = as.reverse ++ Sum.inr (Sum.inr r) :: st.drop n ∧ as.length + 1 = n ∧ r.1 = ct ∧ r.2 ≠ 0 ∧ ((st.drop n).map lcat).sum ≤ 8 ∧ k (Sum.inr (Sum.inr r) :: as) (st.drop n) := by
  unfold Targs at hT
  split at hT
  · rename_i r as ha
    split at hT
    · rename_i hb
      simp only [Bool.and_eq_true, beq_iff_eq, Nat.ble_eq] at hb
      refine ⟨r, as, ?_, hb.2, hb.1.1, hT.1, hb.1.2, hT.2⟩
      have h1 : st.take n = (Sum.inr (Sum.inr r) :: as).reverse := by rw [← ha, List.reverse_reverse]
      have h2 := List.take_append_drop n st
      rw [h1, List.reverse_cons, List.append_assoc] at h2
      exact h2.symm
    · exact hT.elim
  · exact hT.elim
/-- what a return gives -/
def RetOk (g : Gl) (p : Program) (e : Env) (R : Room) (s : State) (m : MethodId) (args : Array Value) (below : List Frame) (meth : Method) (c : Code) (cc : ByteArray) (nL : Nat) (nx0 : Int) (Qe : State → Prop) (rk : Nat) (Rt : LV → Sx → Hp → Prop) : Prop :=
  ∀ (pc : Nat) (ls : Lc) (S : Sx) (h : Hp),
    (∀ x, (rk = 1 ∨ (rk = 9 ∧ (x = 0 ∨ x = 1))) → Rt (Sum.inl x) S h → decode cc pc = .ok (.ireturn, 1) → LJ g p e R s m args below meth c nL nx0 Qe pc ls [Sum.inl x] S h) ∧
    (∀ x, rk = 2 → Rt (Sum.inr (Sum.inl x)) S h → decode cc pc = .ok (.lreturn, 1) → LJ g p e R s m args below meth c nL nx0 Qe pc ls [Sum.inr (Sum.inl x)] S h) ∧
    (∀ r : Nat × Int, rk = 6 → (r.1 = 6 ∨ r.2 = 0) → Rt (LR 6 r.2) S h → decode cc pc = .ok (.areturn, 1) → LJ g p e R s m args below meth c nL nx0 Qe pc ls [Sum.inr (Sum.inr r)] S h) ∧
    (rk = 0 → Rt (Sum.inl 0) S h → decode cc pc = .ok (.return_, 1) → LJ g p e R s m args below meth c nL nx0 Qe pc ls [] S h)
set_option maxHeartbeats 8000000 in
theorem T_sound {ini : Bool} {rk : Nat} {J : Nat → Lc → List LV → Sx → Hp → Prop} {Rt : LV → Sx → Hp → Prop} {pc len : Nat} {i : Instr} {k : Lc → List LV → Sx → Hp → Prop} {ls : Lc} {st : List LV} {S : Sx} {h : Hp} (C : Cx g own p s m args c cc nL) (hini : ini = true → meth.name = "<init>") (hRf : d + 1 ≤ R.frames) (hRl : 32 + 32 * d ≤ R.locals) (hR : (nx1 - nx0).toNat ≤ R.cells ∧ zz nx1 - zz nx0 ≤ R.slots) (hret : RetOk g p e R s m args below meth c cc nL nx0 Qe rk Rt) (hd : decode cc pc = .ok (i, len)) (hok : okI nL pc i len = true)
    (hJ : ∀ t ls st S h, J t ls st S h → LJ g p e R s m args below meth c nL nx0 Qe t ls st S h) (hk : ∀ ls st S h, k ls st S h → LJ g p e R s m args below meth c nL nx0 Qe (pc + len) ls st S h) (hT : T g d own rk ini nx1 J Rt pc i k ls st S h) : LJ g p e R s m args below meth c nL nx0 Qe pc ls st S h := by
  have hRc : S.1 ≤ nx1 → (S.1 - nx0).toNat ≤ R.cells ∧ zz S.1 - zz nx0 ≤ R.slots := fun hSn => by
    have := zz_up (n := S.1) (m := nx1) hSn
    exact ⟨Nat.le_trans (by omega) hR.1, Nat.le_trans (by omega) hR.2⟩
  have hRf1 : 1 ≤ R.frames := by omega
  have hRl1 : 23 ≤ R.locals := by omega
  have hRl2 : 20 ≤ R.locals := by omega
  cases i with
  | aload_n n =>
    have hl : len = 1 := by
      simp only [okI, Bool.and_eq_true, beq_iff_eq, decide_eq_true_eq] at hok
      omega
    subst hl
    simp only [T] at hT
    split at hT
    · rename_i r hv; exact zt_aload_n C hv hd (hk _ _ _ _ hT)
    · exact hT.elim
  | iload_n n =>
    have hl : len = 1 := by
      simp only [okI, Bool.and_eq_true, beq_iff_eq, decide_eq_true_eq] at hok
      omega
    subst hl
    simp only [T] at hT
    split at hT
    · rename_i r hv; exact zt_iload_n C hv hd (hk _ _ _ _ hT)
    · exact hT.elim
  | lload_n n =>
    have hl : len = 1 := by
      simp only [okI, Bool.and_eq_true, beq_iff_eq, decide_eq_true_eq] at hok
      omega
    subst hl
    simp only [T] at hT
    split at hT
    · rename_i r hv; exact zt_lload_n C hv hd (hk _ _ _ _ hT)
    · exact hT.elim
  | aload n =>
    have hl : len = 2 := by
      simp only [okI, Bool.and_eq_true, beq_iff_eq, decide_eq_true_eq] at hok
      omega
    subst hl
    simp only [T] at hT
    split at hT
    · rename_i r hv; exact zt_aload C hv hd (hk _ _ _ _ hT)
    · exact hT.elim
  | iload n =>
    have hl : len = 2 := by
      simp only [okI, Bool.and_eq_true, beq_iff_eq, decide_eq_true_eq] at hok
      omega
    subst hl
    simp only [T] at hT
    split at hT
    · rename_i r hv; exact zt_iload C hv hd (hk _ _ _ _ hT)
    · exact hT.elim
  | lload n =>
    have hl : len = 2 := by
      simp only [okI, Bool.and_eq_true, beq_iff_eq, decide_eq_true_eq] at hok
      omega
    subst hl
    simp only [T] at hT
    split at hT
    · rename_i r hv; exact zt_lload C hv hd (hk _ _ _ _ hT)
    · exact hT.elim
  | astore n =>
    have hl : len = 2 := by
      simp only [okI, Bool.and_eq_true, beq_iff_eq, decide_eq_true_eq] at hok
      omega
    subst hl
    simp only [T] at hT
    have hb := hok
    simp only [okI, Bool.and_eq_true, beq_iff_eq, decide_eq_true_eq] at hb
    split at hT
    · exact zt_astore C hb.2 hd (hk _ _ _ _ hT)
    · exact hT.elim
  | astore_n n =>
    have hl : len = 1 := by
      simp only [okI, Bool.and_eq_true, beq_iff_eq, decide_eq_true_eq] at hok
      omega
    subst hl
    simp only [T] at hT
    have hb := hok
    simp only [okI, Bool.and_eq_true, beq_iff_eq, decide_eq_true_eq] at hb
    split at hT
    · exact zt_astore_n C hb.2 hd (hk _ _ _ _ hT)
    · exact hT.elim
  | istore n =>
    have hl : len = 2 := by
      simp only [okI, Bool.and_eq_true, beq_iff_eq, decide_eq_true_eq] at hok
      omega
    subst hl
    simp only [T] at hT
    have hb := hok
    simp only [okI, Bool.and_eq_true, beq_iff_eq, decide_eq_true_eq] at hb
    split at hT
    · exact zt_istore C hb.2 hd (hk _ _ _ _ hT)
    · exact hT.elim
  | istore_n n =>
    have hl : len = 1 := by
      simp only [okI, Bool.and_eq_true, beq_iff_eq, decide_eq_true_eq] at hok
      omega
    subst hl
    simp only [T] at hT
    have hb := hok
    simp only [okI, Bool.and_eq_true, beq_iff_eq, decide_eq_true_eq] at hb
    split at hT
    · exact zt_istore_n C hb.2 hd (hk _ _ _ _ hT)
    · exact hT.elim
  | lstore n =>
    have hl : len = 2 := by
      simp only [okI, Bool.and_eq_true, beq_iff_eq, decide_eq_true_eq] at hok
      omega
    subst hl
    simp only [T] at hT
    have hb := hok
    simp only [okI, Bool.and_eq_true, beq_iff_eq, decide_eq_true_eq] at hb
    split at hT
    · exact zt_lstore C hb.2 hd (hk _ _ _ _ hT)
    · exact hT.elim
  | lstore_n n =>
    have hl : len = 1 := by
      simp only [okI, Bool.and_eq_true, beq_iff_eq, decide_eq_true_eq] at hok
      omega
    subst hl
    simp only [T] at hT
    have hb := hok
    simp only [okI, Bool.and_eq_true, beq_iff_eq, decide_eq_true_eq] at hb
    split at hT
    · exact zt_lstore_n C hb.2 hd (hk _ _ _ _ hT)
    · exact hT.elim
  | iinc n v =>
    have hl : len = 3 := by
      simp only [okI, Bool.and_eq_true, beq_iff_eq, decide_eq_true_eq] at hok
      omega
    subst hl
    simp only [T] at hT
    have hb := hok
    simp only [okI, Bool.and_eq_true, beq_iff_eq, decide_eq_true_eq] at hb
    split at hT
    · rename_i x hv; exact zt_iinc C hv hb.2 hd (hk _ _ _ _ hT)
    · exact hT.elim
  | iconst x =>
    have hl : len = 1 := by
      simp only [okI, Bool.and_eq_true, beq_iff_eq, decide_eq_true_eq] at hok
      omega
    subst hl
    simp only [T] at hT
    have hb := hok
    simp only [okI, Bool.and_eq_true, beq_iff_eq, decide_eq_true_eq] at hb
    exact zt_const ⟨by omega, by omega⟩ C (Or.inl ⟨rfl, rfl⟩) hd (hk _ _ _ _ hT)
  | bipush x =>
    have hl : len = 2 := by
      simp only [okI, Bool.and_eq_true, beq_iff_eq, decide_eq_true_eq] at hok
      omega
    subst hl
    simp only [T] at hT
    have hb := hok
    simp only [okI, Bool.and_eq_true, beq_iff_eq, decide_eq_true_eq] at hb
    exact zt_const ⟨by omega, by omega⟩ C (Or.inr (Or.inl ⟨rfl, rfl, by omega, by omega⟩)) hd (hk _ _ _ _ hT)
  | sipush x =>
    have hl : len = 3 := by
      simp only [okI, Bool.and_eq_true, beq_iff_eq, decide_eq_true_eq] at hok
      omega
    subst hl
    simp only [T] at hT
    have hb := hok
    simp only [okI, Bool.and_eq_true, beq_iff_eq, decide_eq_true_eq] at hb
    exact zt_const ⟨by omega, by omega⟩ C (Or.inr (Or.inr ⟨rfl, rfl, by omega, by omega⟩)) hd (hk _ _ _ _ hT)
  | lconst n =>
    have hl : len = 1 := by
      simp only [okI, Bool.and_eq_true, beq_iff_eq, decide_eq_true_eq] at hok
      omega
    subst hl
    simp only [T] at hT
    exact zt_lconst C hd (hk _ _ _ _ hT)
  | aconst_null =>
    have hl : len = 1 := by
      simp only [okI, Bool.and_eq_true, beq_iff_eq, decide_eq_true_eq] at hok
      omega
    subst hl
    simp only [T] at hT
    exact zt_null C hd (hk _ _ _ _ hT)
  | ldc2_w n =>
    have hl : len = 3 := by
      simp only [okI, Bool.and_eq_true, beq_iff_eq, decide_eq_true_eq] at hok
      omega
    subst hl
    simp only [T] at hT
    have hb := hok
    simp only [okI, Bool.and_eq_true, beq_iff_eq, decide_eq_true_eq] at hb
    split at hT
    · rename_i x hv; exact zt_ldc2 C hv hb.2 hd (hk _ _ _ _ hT)
    · exact hT.elim
  | getstatic n =>
    have hl : len = 3 := by
      simp only [okI, Bool.and_eq_true, beq_iff_eq, decide_eq_true_eq] at hok
      omega
    subst hl
    simp only [T] at hT
    have hb := hok
    simp only [okI, Bool.and_eq_true, beq_iff_eq, decide_eq_true_eq] at hb
    split at hT
    · rename_i x hv; exact zt_gets C hb.2 hv hd (hk _ _ _ _ hT)
    · exact hT.elim
  | iadd =>
    have hl : len = 1 := by
      simp only [okI, Bool.and_eq_true, beq_iff_eq, decide_eq_true_eq] at hok
      omega
    subst hl
    simp only [T] at hT
    split at hT
    · exact zt_iadd C hd (hk _ _ _ _ hT)
    · exact hT.elim
  | isub =>
    have hl : len = 1 := by
      simp only [okI, Bool.and_eq_true, beq_iff_eq, decide_eq_true_eq] at hok
      omega
    subst hl
    simp only [T] at hT
    split at hT
    · exact zt_isub C hd (hk _ _ _ _ hT)
    · exact hT.elim
  | imul =>
    have hl : len = 1 := by
      simp only [okI, Bool.and_eq_true, beq_iff_eq, decide_eq_true_eq] at hok
      omega
    subst hl
    simp only [T] at hT
    split at hT
    · exact zt_imul C hd (hk _ _ _ _ hT)
    · exact hT.elim
  | iand =>
    have hl : len = 1 := by
      simp only [okI, Bool.and_eq_true, beq_iff_eq, decide_eq_true_eq] at hok
      omega
    subst hl
    simp only [T] at hT
    split at hT
    · exact zt_iand C hd (hk _ _ _ _ hT)
    · exact hT.elim
  | ior =>
    have hl : len = 1 := by
      simp only [okI, Bool.and_eq_true, beq_iff_eq, decide_eq_true_eq] at hok
      omega
    subst hl
    simp only [T] at hT
    split at hT
    · exact zt_ior C hd (hk _ _ _ _ hT)
    · exact hT.elim
  | ishl =>
    have hl : len = 1 := by
      simp only [okI, Bool.and_eq_true, beq_iff_eq, decide_eq_true_eq] at hok
      omega
    subst hl
    simp only [T] at hT
    split at hT
    · exact zt_ishl C hd (hk _ _ _ _ hT)
    · exact hT.elim
  | ishr =>
    have hl : len = 1 := by
      simp only [okI, Bool.and_eq_true, beq_iff_eq, decide_eq_true_eq] at hok
      omega
    subst hl
    simp only [T] at hT
    split at hT
    · exact zt_ishr C hd (hk _ _ _ _ hT)
    · exact hT.elim
  | iushr =>
    have hl : len = 1 := by
      simp only [okI, Bool.and_eq_true, beq_iff_eq, decide_eq_true_eq] at hok
      omega
    subst hl
    simp only [T] at hT
    split at hT
    · exact zt_iushr C hd (hk _ _ _ _ hT)
    · exact hT.elim
  | ladd =>
    have hl : len = 1 := by
      simp only [okI, Bool.and_eq_true, beq_iff_eq, decide_eq_true_eq] at hok
      omega
    subst hl
    simp only [T] at hT
    split at hT
    · exact zt_ladd C hd (hk _ _ _ _ hT)
    · exact hT.elim
  | lsub =>
    have hl : len = 1 := by
      simp only [okI, Bool.and_eq_true, beq_iff_eq, decide_eq_true_eq] at hok
      omega
    subst hl
    simp only [T] at hT
    split at hT
    · exact zt_lsub C hd (hk _ _ _ _ hT)
    · exact hT.elim
  | lmul =>
    have hl : len = 1 := by
      simp only [okI, Bool.and_eq_true, beq_iff_eq, decide_eq_true_eq] at hok
      omega
    subst hl
    simp only [T] at hT
    split at hT
    · exact zt_lmul C hd (hk _ _ _ _ hT)
    · exact hT.elim
  | lneg =>
    have hl : len = 1 := by
      simp only [okI, Bool.and_eq_true, beq_iff_eq, decide_eq_true_eq] at hok
      omega
    subst hl
    simp only [T] at hT
    split at hT
    · exact zt_lneg C hd (hk _ _ _ _ hT)
    · exact hT.elim
  | lcmp =>
    have hl : len = 1 := by
      simp only [okI, Bool.and_eq_true, beq_iff_eq, decide_eq_true_eq] at hok
      omega
    subst hl
    simp only [T] at hT
    split at hT
    · exact zt_lcmp C hd (hk _ _ _ _ hT)
    · exact hT.elim
  | i2l =>
    have hl : len = 1 := by
      simp only [okI, Bool.and_eq_true, beq_iff_eq, decide_eq_true_eq] at hok
      omega
    subst hl
    simp only [T] at hT
    split at hT
    · exact zt_i2l C hd (hk _ _ _ _ hT)
    · exact hT.elim
  | l2i =>
    have hl : len = 1 := by
      simp only [okI, Bool.and_eq_true, beq_iff_eq, decide_eq_true_eq] at hok
      omega
    subst hl
    simp only [T] at hT
    split at hT
    · exact zt_l2i C hd (hk _ _ _ _ hT)
    · exact hT.elim
  | i2b =>
    have hl : len = 1 := by
      simp only [okI, Bool.and_eq_true, beq_iff_eq, decide_eq_true_eq] at hok
      omega
    subst hl
    simp only [T] at hT
    split at hT
    · exact zt_i2b C hd (hk _ _ _ _ hT)
    · exact hT.elim
  | idiv =>
    have hl : len = 1 := by
      simp only [okI, Bool.and_eq_true, beq_iff_eq, decide_eq_true_eq] at hok
      omega
    subst hl
    simp only [T] at hT
    split at hT
    · exact zt_idiv C hT.1 hd (hk _ _ _ _ hT.2)
    · exact hT.elim
  | irem =>
    have hl : len = 1 := by
      simp only [okI, Bool.and_eq_true, beq_iff_eq, decide_eq_true_eq] at hok
      omega
    subst hl
    simp only [T] at hT
    split at hT
    · exact zt_irem C hT.1 hd (hk _ _ _ _ hT.2)
    · exact hT.elim
  | ldiv =>
    have hl : len = 1 := by
      simp only [okI, Bool.and_eq_true, beq_iff_eq, decide_eq_true_eq] at hok
      omega
    subst hl
    simp only [T] at hT
    split at hT
    · exact zt_ldiv C hT.1 hd (hk _ _ _ _ hT.2)
    · exact hT.elim
  | lrem =>
    have hl : len = 1 := by
      simp only [okI, Bool.and_eq_true, beq_iff_eq, decide_eq_true_eq] at hok
      omega
    subst hl
    simp only [T] at hT
    split at hT
    · exact zt_lrem C hT.1 hd (hk _ _ _ _ hT.2)
    · exact hT.elim
  | dup =>
    have hl : len = 1 := by
      simp only [okI, Bool.and_eq_true, beq_iff_eq, decide_eq_true_eq] at hok
      omega
    subst hl
    simp only [T] at hT
    split at hT
    · split at hT
      · rename_i hc; exact zt_dup C hc hd (hk _ _ _ _ hT)
      · exact hT.elim
    · exact hT.elim
  | pop =>
    have hl : len = 1 := by
      simp only [okI, Bool.and_eq_true, beq_iff_eq, decide_eq_true_eq] at hok
      omega
    subst hl
    simp only [T] at hT
    split at hT
    · split at hT
      · rename_i hc; exact zt_pop C hc hd (hk _ _ _ _ hT)
      · exact hT.elim
    · exact hT.elim
  | dup2 =>
    have hl : len = 1 := by
      simp only [okI, Bool.and_eq_true, beq_iff_eq, decide_eq_true_eq] at hok
      omega
    subst hl
    simp only [T] at hT
    split at hT
    · split at hT
      · rename_i hc1 hc2; exact zt_dup2 C hc1 hc2 hd (hk _ _ _ _ hT)
      · exact hT.elim
    · exact hT.elim
  | ifCond q off =>
    have hl : len = 3 := by
      simp only [okI, Bool.and_eq_true, beq_iff_eq, decide_eq_true_eq] at hok
      omega
    subst hl
    simp only [T] at hT
    have hb := hok
    simp only [okI, Bool.and_eq_true, beq_iff_eq, decide_eq_true_eq] at hb
    split at hT
    · exact zt_ifc C hb.2 hd hT (fun z => hJ _ _ _ _ _ z) (fun z => hk _ _ _ _ z)
    · exact hT.elim
  | if_icmp q off =>
    have hl : len = 3 := by
      simp only [okI, Bool.and_eq_true, beq_iff_eq, decide_eq_true_eq] at hok
      omega
    subst hl
    simp only [T] at hT
    have hb := hok
    simp only [okI, Bool.and_eq_true, beq_iff_eq, decide_eq_true_eq] at hb
    split at hT
    · exact zt_icmp C hb.2 hd hT (fun z => hJ _ _ _ _ _ z) (fun z => hk _ _ _ _ z)
    · exact hT.elim
  | if_acmp q off =>
    have hl : len = 3 := by
      simp only [okI, Bool.and_eq_true, beq_iff_eq, decide_eq_true_eq] at hok
      omega
    subst hl
    simp only [T] at hT
    have hb := hok
    simp only [okI, Bool.and_eq_true, beq_iff_eq, decide_eq_true_eq] at hb
    split at hT
    · obtain ⟨a1, a2, hT⟩ := hT
      cases q with
      | eq => exact zt_acmp_eq C hb.2 a1 a2 hd (fun z => hJ _ _ _ _ _ (hT.1 z)) (fun z => hk _ _ _ _ (hT.2 z))
      | ne => exact zt_acmp_ne C hb.2 a1 a2 hd (fun z => hJ _ _ _ _ _ (hT.1 z)) (fun z => hk _ _ _ _ (hT.2 z))
    · exact hT.elim
  | ifnull off =>
    have hl : len = 3 := by
      simp only [okI, Bool.and_eq_true, beq_iff_eq, decide_eq_true_eq] at hok
      omega
    subst hl
    simp only [T] at hT
    have hb := hok
    simp only [okI, Bool.and_eq_true, beq_iff_eq, decide_eq_true_eq] at hb
    split at hT
    · exact zt_ifnull (A := True) (B := True) C hb.2 hd (fun z => hJ _ _ _ _ _ (hT.1 z)) (fun z => hk _ _ _ _ (hT.2 z))
    · exact hT.elim
  | ifnonnull off =>
    have hl : len = 3 := by
      simp only [okI, Bool.and_eq_true, beq_iff_eq, decide_eq_true_eq] at hok
      omega
    subst hl
    simp only [T] at hT
    have hb := hok
    simp only [okI, Bool.and_eq_true, beq_iff_eq, decide_eq_true_eq] at hb
    split at hT
    · exact zt_ifnonnull (A := True) (B := True) C hb.2 hd (fun z => hJ _ _ _ _ _ (hT.1 z)) (fun z => hk _ _ _ _ (hT.2 z))
    · exact hT.elim
  | goto off =>
    have hl : len = 3 := by
      simp only [okI, Bool.and_eq_true, beq_iff_eq, decide_eq_true_eq] at hok
      omega
    subst hl
    simp only [T] at hT
    have hb := hok
    simp only [okI, Bool.and_eq_true, beq_iff_eq, decide_eq_true_eq] at hb
    exact zt_goto C hb.2 hd (hJ _ _ _ _ _ hT)
  | tableswitch df lo hi offs =>
    simp only [T] at hT
    have hb := hok
    simp only [okI, Bool.and_eq_true, decide_eq_true_eq, List.all_eq_true] at hb
    split at hT
    · rename_i x st'
      exact zt_table (J := fun t => J t ls st' S h) C hd ⟨hb.1.1, hb.1.2, hb.2⟩ hT.1 hT.2 (fun t z => hJ _ _ _ _ _ z)
    · exact hT.elim
  | getfield n =>
    have hl : len = 3 := by
      simp only [okI, Bool.and_eq_true, beq_iff_eq, decide_eq_true_eq] at hok
      omega
    subst hl
    simp only [T] at hT
    split at hT
    · rename_i q hv; exact zt_get C hv hd hT hk
    · exact hT.elim
  | putfield n =>
    have hl : len = 3 := by
      simp only [okI, Bool.and_eq_true, beq_iff_eq, decide_eq_true_eq] at hok
      omega
    subst hl
    simp only [T] at hT
    split at hT
    · rename_i q hv; exact zt_put C hini hv hd hT hk
    · exact hT.elim
  | iaload =>
    have hl : len = 1 := by
      simp only [okI, Bool.and_eq_true, beq_iff_eq, decide_eq_true_eq] at hok
      omega
    subst hl
    simp only [T] at hT
    split at hT
    · exact zt_ald C (Or.inl ⟨rfl, rfl⟩) hd hT (fun v z => hk _ _ _ _ z)
    · exact hT.elim
  | laload =>
    have hl : len = 1 := by
      simp only [okI, Bool.and_eq_true, beq_iff_eq, decide_eq_true_eq] at hok
      omega
    subst hl
    simp only [T] at hT
    split at hT
    · exact zt_ald C (Or.inr (Or.inl ⟨rfl, rfl⟩)) hd hT (fun v z => hk _ _ _ _ z)
    · exact hT.elim
  | aaload =>
    have hl : len = 1 := by
      simp only [okI, Bool.and_eq_true, beq_iff_eq, decide_eq_true_eq] at hok
      omega
    subst hl
    simp only [T] at hT
    split at hT
    · exact zt_ald C (Or.inr (Or.inr (Or.inr (Or.inr ⟨rfl, rfl⟩)))) hd hT (fun v z => hk _ _ _ _ z)
    · exact hT.elim
  | baload =>
    have hl : len = 1 := by
      simp only [okI, Bool.and_eq_true, beq_iff_eq, decide_eq_true_eq] at hok
      omega
    subst hl
    simp only [T] at hT
    split at hT
    · split at hT
      · exact zt_ald C (Or.inr (Or.inr (Or.inl ⟨rfl, rfl⟩))) hd hT (fun v z => hk _ _ _ _ z)
      · exact zt_ald C (Or.inr (Or.inr (Or.inr (Or.inl ⟨rfl, rfl⟩)))) hd hT (fun v z => hk _ _ _ _ z)
    · exact hT.elim
  | iastore =>
    have hl : len = 1 := by
      simp only [okI, Bool.and_eq_true, beq_iff_eq, decide_eq_true_eq] at hok
      omega
    subst hl
    simp only [T] at hT
    split at hT
    · split at hT
      · rename_i hq; exact zt_iast C (by simpa using hq) hT.1 hT.2.1 hT.2.2.1 hd (hk _ _ _ _ hT.2.2.2)
      · exact hT.elim
    · exact hT.elim
  | lastore =>
    have hl : len = 1 := by
      simp only [okI, Bool.and_eq_true, beq_iff_eq, decide_eq_true_eq] at hok
      omega
    subst hl
    simp only [T] at hT
    split at hT
    · split at hT
      · rename_i hq; exact zt_last C (by simpa using hq) hT.1 hT.2.1 hT.2.2.1 hd (hk _ _ _ _ hT.2.2.2)
      · exact hT.elim
    · exact hT.elim
  | bastore =>
    have hl : len = 1 := by
      simp only [okI, Bool.and_eq_true, beq_iff_eq, decide_eq_true_eq] at hok
      omega
    subst hl
    simp only [T] at hT
    split at hT
    · split at hT
      · rename_i hq; exact zt_zast C (by simpa using hq) hT.1 hT.2.1 hT.2.2.1 hT.2.2.2.1 hd (hk _ _ _ _ hT.2.2.2.2)
      · split at hT
        · rename_i hq; exact zt_bast C (by simpa using hq) hT.1 hT.2.1 hT.2.2.1 hT.2.2.2.1 hd (hk _ _ _ _ hT.2.2.2.2)
        · exact hT.elim
    · exact hT.elim
  | aastore =>
    have hl : len = 1 := by
      simp only [okI, Bool.and_eq_true, beq_iff_eq, decide_eq_true_eq] at hok
      omega
    subst hl
    simp only [T] at hT
    split at hT
    · split at hT
      · rename_i hq
        simp only [Bool.and_eq_true, beq_iff_eq] at hq
        exact zt_aast C hq.1 hq.2 hT.1 hT.2.1 hT.2.2.1 hT.2.2.2.1 hd (hk _ _ _ _ hT.2.2.2.2)
      · exact hT.elim
    · exact hT.elim
  | arraylength =>
    have hl : len = 1 := by
      simp only [okI, Bool.and_eq_true, beq_iff_eq, decide_eq_true_eq] at hok
      omega
    subst hl
    simp only [T] at hT
    split at hT
    · split at hT
      · rename_i hq
        simp only [Bool.and_eq_true, Nat.ble_eq] at hq
        exact zt_alen C hq.1 (by omega) hT.1 (lnn_ok C.2.2.2.2.2.2.1 _) hd (hk _ _ _ _ hT.2)
      · exact hT.elim
    · exact hT.elim
  | new n =>
    have hl : len = 3 := by
      simp only [okI, Bool.and_eq_true, beq_iff_eq, decide_eq_true_eq] at hok
      omega
    subst hl
    simp only [T] at hT
    have hb := hok
    simp only [okI, Bool.and_eq_true, beq_iff_eq, decide_eq_true_eq] at hb
    split at hT
    · rename_i q hv; exact zt_new C hR hb.2 hv hT.1 hT.2.1 hd (hk _ _ _ _ hT.2.2)
    · exact hT.elim
  | newarray a =>
    have hl : len = 2 := by
      simp only [okI, Bool.and_eq_true, beq_iff_eq, decide_eq_true_eq] at hok
      omega
    subst hl
    simp only [T] at hT
    split at hT
    · exact zt_newa C hR hT.1 hT.2.1 hT.2.2.1 hT.2.2.2.1 hd (hk _ _ _ _ hT.2.2.2.2)
    · exact hT.elim
  | anewarray n =>
    have hl : len = 3 := by
      simp only [okI, Bool.and_eq_true, beq_iff_eq, decide_eq_true_eq] at hok
      omega
    subst hl
    simp only [T] at hT
    have hb := hok
    simp only [okI, Bool.and_eq_true, beq_iff_eq, decide_eq_true_eq] at hb
    split at hT
    · rename_i q hv
      obtain ⟨t1, t2, t3, t4, t5⟩ := hT
      subst t1
      exact zt_anew C hR hb.2 hv t2 t3 t4 hd (hk _ _ _ _ t5)
    · exact hT.elim
  | invokevirtual n =>
    have hl : len = 3 := by
      simp only [okI, Bool.and_eq_true, beq_iff_eq, decide_eq_true_eq] at hok
      omega
    subst hl
    simp only [T] at hT
    split at hT
    · rename_i m' r ct mi hc
      obtain ⟨q, as, h1, h2, h3, h4, h5, h6, h7⟩ := Targs_use hT
      have hm := cpm_ok C.1 hc
      subst h2
      exact zt_callV C hRf hRl (hRc h6) hm h1 rfl h3 h4 h5 hd h7 hk
    · exact hT.elim
  | invokestatic n =>
    have hl : len = 3 := by
      simp only [okI, Bool.and_eq_true, beq_iff_eq, decide_eq_true_eq] at hok
      omega
    subst hl
    simp only [T] at hT
    have hb := hok
    simp only [okI, Bool.and_eq_true, beq_iff_eq, decide_eq_true_eq] at hb
    split at hT
    · rename_i m' r ct mi hc
      split at hT
      · rename_i hq
        simp only [Bool.and_eq_true, Nat.ble_eq, beq_iff_eq] at hq
        have hm := cpm_ok C.1 hc
        exact zt_callS C hRf hRl (hRc hT.1) hm (by rw [List.reverse_reverse]; exact (List.take_append_drop m' st).symm) (by rw [List.length_reverse]; exact hq.2) hq.1 hd hT.2 hk
      · exact hT.elim
    · rename_i q hc
      split at hT
      · rename_i y x st'
        split at hT
        · rename_i hq
          exact (zt_math C hRf1 hRl1 (hRc hT.1) hc (by simpa using hq) hd).1 rfl (hk _ _ _ _ hT.2)
        · exact hT.elim
      · exact hT.elim
    · rename_i q hc
      split at hT
      · rename_i y x st'
        split at hT
        · rename_i hq
          exact (zt_math C hRf1 hRl1 (hRc hT.1) hc (by simpa using hq) hd).2.1 rfl (hk _ _ _ _ hT.2)
        · exact hT.elim
      · exact hT.elim
    · rename_i q hc
      split at hT
      · rename_i y x st'
        split at hT
        · rename_i hq
          exact (zt_math C hRf1 hRl1 (hRc hT.1) hc (by simpa using hq) hd).2.2.1 rfl (hk _ _ _ _ hT.2)
        · exact hT.elim
      · exact hT.elim
    · rename_i q hc
      split at hT
      · rename_i x st'
        split at hT
        · rename_i hq
          exact (zt_math (y := 0) C hRf1 hRl1 (hRc hT.1) hc (by simpa using hq) hd).2.2.2 rfl (hk _ _ _ _ hT.2)
        · exact hT.elim
      · exact hT.elim
    · split at hT
      · rename_i hc
        split at hT
        · rename_i hq
          simp only [Bool.and_eq_true, beq_iff_eq] at hq
          obtain ⟨t1, t2, t3, t4, t5, t6, t7, t8⟩ := hT
          exact zt_cpy C hRf1 hRl2 hb.2 hc hq.1 hq.2 t1 t2 t3 t4 t5 t6 t7 hd (hk _ _ _ _ t8)
        · exact hT.elim
      · exact hT.elim
  | invokespecial n =>
    have hl : len = 3 := by
      simp only [okI, Bool.and_eq_true, beq_iff_eq, decide_eq_true_eq] at hok
      omega
    subst hl
    simp only [T] at hT
    have hb := hok
    simp only [okI, Bool.and_eq_true, beq_iff_eq, decide_eq_true_eq] at hb
    split at hT
    · rename_i m' ct mi hc
      obtain ⟨q, as, h1, h2, h3, h4, h5, S', h6, h7, h8⟩ := Targs_use hT
      have hm := cpm_ok C.1 hc
      subst h2
      exact zt_callI C hRf hRl hR h6 h7 (Or.inl hm) h1 rfl h3 h4 h5 hd h8 (fun _ z => hk _ _ _ _ z)
    · rename_i m' ct mi hc
      obtain ⟨q, as, h1, h2, h3, h4, h5, S', h6, h7, h8⟩ := Targs_use hT
      have hm := cpm_ok C.1 hc
      subst h2
      exact zt_callI C hRf hRl hR h6 h7 (Or.inr hm) h1 rfl h3 h4 h5 hd h8 (fun _ z => hk _ _ _ _ z)
    · split at hT
      · rename_i hc
        split at hT
        · rename_i hq
          exact zt_obj C hRf1 hRl2 hb.2 hc hT.1 (by simpa using hq) hd (hk _ _ _ _ hT.2)
        · exact hT.elim
      · exact hT.elim
  | ireturn =>
    have hl : len = 1 := by
      simp only [okI, Bool.and_eq_true, beq_iff_eq, decide_eq_true_eq] at hok
      omega
    subst hl
    simp only [T] at hT
    split at hT
    · exact (hret pc ls S h).1 _ (Or.inl rfl) hT hd
    · exact (hret pc ls S h).1 _ (Or.inr ⟨rfl, hT.1⟩) hT.2 hd
    · exact hT.elim
  | lreturn =>
    have hl : len = 1 := by
      simp only [okI, Bool.and_eq_true, beq_iff_eq, decide_eq_true_eq] at hok
      omega
    subst hl
    simp only [T] at hT
    split at hT
    · exact (hret pc ls S h).2.1 _ rfl hT hd
    · exact hT.elim
  | areturn =>
    have hl : len = 1 := by
      simp only [okI, Bool.and_eq_true, beq_iff_eq, decide_eq_true_eq] at hok
      omega
    subst hl
    simp only [T] at hT
    split at hT
    · split at hT
      · rename_i hq; exact (hret pc ls S h).2.2.1 _ rfl (Or.inl (by simpa using hq)) hT hd
      · exact (hret pc ls S h).2.2.1 _ rfl (Or.inr hT.1) (by rw [hT.1]; exact hT.2) hd
    · exact hT.elim
  | return_ =>
    have hl : len = 1 := by
      simp only [okI, Bool.and_eq_true, beq_iff_eq, decide_eq_true_eq] at hok
      omega
    subst hl
    simp only [T] at hT
    split at hT
    · exact (hret pc ls S h).2.2.2 rfl hT hd
    · exact hT.elim
  | _ => exact hT.elim
end RUN
