/-! THE LIGHT MACHINE IS SOUND, 2: loads, stores, arithmetic, branches -/
section OPS2
variable {g : Gl} {own : Nat} {p : Program} {e : Env} {R : Room} {s : State} {m : MethodId} {args : Array Value} {below : List Frame} {meth : Method} {c : Code} {cc : ByteArray} {nL : Nat} {nx0 : Int} {Qe : State → Prop} {pc : Nat} {ls : Lc} {st : List LV} {S : Sx} {h : Hp}
theorem zt_aload {n : Nat} {r : Nat × Int} (C : Cx g own p s m args c cc nL) (hv : lget ls n = some (Sum.inr (Sum.inr r))) (hd : decode cc pc = .ok (.aload n, 2)) (X : LJ g p e R s m args below meth c nL nx0 Qe (pc + 2) ls (Sum.inr (Sum.inr r) :: st) S h) : LJ g p e R s m args below meth c nL nx0 Qe pc ls st S h := by
  intro H locs lr hH hZ hl hL hs hk hn
  have K := X H locs lr hH hZ hl hL (List.forall_mem_cons.mpr ⟨hk _ _ hv, hs⟩) hk hn
  have hr := hL.2.2 _ _ hv
  rw [List.map_cons] at K
  simp only [cv, rfv] at hr K
  by_cases h0 : r.2 = 0
  · rw [if_pos h0] at hr K
    exact lv_aloadN C.2.1 C.2.2.1 hd hr K
  · rw [if_neg h0] at hr K
    exact lv_aload C.2.1 C.2.2.1 hd hr K
theorem zt_aload_n {n : Fin 4} {r : Nat × Int} (C : Cx g own p s m args c cc nL) (hv : lget ls n.val = some (Sum.inr (Sum.inr r))) (hd : decode cc pc = .ok (.aload_n n, 1)) (X : LJ g p e R s m args below meth c nL nx0 Qe (pc + 1) ls (Sum.inr (Sum.inr r) :: st) S h) : LJ g p e R s m args below meth c nL nx0 Qe pc ls st S h := by
  intro H locs lr hH hZ hl hL hs hk hn
  have K := X H locs lr hH hZ hl hL (List.forall_mem_cons.mpr ⟨hk _ _ hv, hs⟩) hk hn
  have hr := hL.2.2 _ _ hv
  rw [List.map_cons] at K
  simp only [cv, rfv] at hr K
  by_cases h0 : r.2 = 0
  · rw [if_pos h0] at hr K
    exact lv_aload_nN C.2.1 C.2.2.1 hd rfl hr K
  · rw [if_neg h0] at hr K
    exact lv_aload_n C.2.1 C.2.2.1 hd rfl hr K
theorem zt_astore {n : Nat} {r : Nat × Int} (C : Cx g own p s m args c cc nL) (hb : n < nL) (hd : decode cc pc = .ok (.astore n, 2)) (X : LJ g p e R s m args below meth c nL nx0 Qe (pc + 2) (lset1 ls n (Sum.inr (Sum.inr r))) st S h) : LJ g p e R s m args below meth c nL nx0 Qe pc ls (Sum.inr (Sum.inr r) :: st) S h := by
  intro H locs lr hH hZ hl hL hs hk hn
  have hs := List.forall_mem_cons.mp hs
  have K : ∀ lr', LcR g nL (lset1 ls n (Sum.inr (Sum.inr r))) lr' → _ := fun lr' h' => X H locs lr' hH hZ hl h' hs.2 (hk.set1 hs.1) hn
  have hset : ∀ lr', lv_has lr' nL ((n, rfv g r.2) :: (aL g ls).filter (fun q => !(q.1 == n) && !(q.1 + 1 == n && q.2.category == 2))) → LcR g nL (lset1 ls n (Sum.inr (Sum.inr r))) lr' := fun lr' h' => LcR.set1 h'
  rw [List.map_cons]
  simp only [cv]
  unfold rfv at hset ⊢
  by_cases h0 : r.2 = 0
  · rw [if_pos h0] at hset ⊢
    exact lv_astoreN C.2.1 C.2.2.1 hd hL.has hb rfl (fun lr' h' => K lr' (hset lr' h'))
  · rw [if_neg h0] at hset ⊢
    exact lv_astore C.2.1 C.2.2.1 hd hL.has hb rfl (fun lr' h' => K lr' (hset lr' h'))
theorem zt_astore_n {n : Fin 4} {r : Nat × Int} (C : Cx g own p s m args c cc nL) (hb : n.val < nL) (hd : decode cc pc = .ok (.astore_n n, 1)) (X : LJ g p e R s m args below meth c nL nx0 Qe (pc + 1) (lset1 ls n.val (Sum.inr (Sum.inr r))) st S h) : LJ g p e R s m args below meth c nL nx0 Qe pc ls (Sum.inr (Sum.inr r) :: st) S h := by
  intro H locs lr hH hZ hl hL hs hk hn
  have hs := List.forall_mem_cons.mp hs
  have K : ∀ lr', LcR g nL (lset1 ls n.val (Sum.inr (Sum.inr r))) lr' → _ := fun lr' h' => X H locs lr' hH hZ hl h' hs.2 (hk.set1 hs.1) hn
  have hset : ∀ lr', lv_has lr' nL ((n.val, rfv g r.2) :: (aL g ls).filter (fun q => !(q.1 == n.val) && !(q.1 + 1 == n.val && q.2.category == 2))) → LcR g nL (lset1 ls n.val (Sum.inr (Sum.inr r))) lr' := fun lr' h' => LcR.set1 h'
  rw [List.map_cons]
  simp only [cv]
  unfold rfv at hset ⊢
  by_cases h0 : r.2 = 0
  · rw [if_pos h0] at hset ⊢
    exact lv_astore_nN C.2.1 C.2.2.1 hd rfl hL.has hb rfl (fun lr' h' => K lr' (hset lr' h'))
  · rw [if_neg h0] at hset ⊢
    exact lv_astore_n C.2.1 C.2.2.1 hd rfl hL.has hb rfl (fun lr' h' => K lr' (hset lr' h'))
theorem zt_iload {n : Nat} {x : Int} (C : Cx g own p s m args c cc nL) (hv : lget ls n = some (Sum.inl x)) (hd : decode cc pc = .ok (.iload n, 2)) (X : LJ g p e R s m args below meth c nL nx0 Qe (pc + 2) ls (Sum.inl x :: st) S h) : LJ g p e R s m args below meth c nL nx0 Qe pc ls st S h := by
  intro H locs lr hH hZ hl hL hs hk hn
  exact lv_iload C.2.1 C.2.2.1 hd (hL.2.2 _ _ hv) (X H locs lr hH hZ hl hL (List.forall_mem_cons.mpr ⟨hk _ _ hv, hs⟩) hk hn)
theorem zt_iload_n {n : Fin 4} {x : Int} (C : Cx g own p s m args c cc nL) (hv : lget ls n.val = some (Sum.inl x)) (hd : decode cc pc = .ok (.iload_n n, 1)) (X : LJ g p e R s m args below meth c nL nx0 Qe (pc + 1) ls (Sum.inl x :: st) S h) : LJ g p e R s m args below meth c nL nx0 Qe pc ls st S h := by
  intro H locs lr hH hZ hl hL hs hk hn
  exact lv_iload_n C.2.1 C.2.2.1 hd rfl (hL.2.2 _ _ hv) (X H locs lr hH hZ hl hL (List.forall_mem_cons.mpr ⟨hk _ _ hv, hs⟩) hk hn)
theorem zt_lload {n : Nat} {x : Int} (C : Cx g own p s m args c cc nL) (hv : lget ls n = some (Sum.inr (Sum.inl x))) (hd : decode cc pc = .ok (.lload n, 2)) (X : LJ g p e R s m args below meth c nL nx0 Qe (pc + 2) ls (Sum.inr (Sum.inl x) :: st) S h) : LJ g p e R s m args below meth c nL nx0 Qe pc ls st S h := by
  intro H locs lr hH hZ hl hL hs hk hn
  exact lv_lload C.2.1 C.2.2.1 hd (hL.2.2 _ _ hv) (X H locs lr hH hZ hl hL (List.forall_mem_cons.mpr ⟨hk _ _ hv, hs⟩) hk hn)
theorem zt_lload_n {n : Fin 4} {x : Int} (C : Cx g own p s m args c cc nL) (hv : lget ls n.val = some (Sum.inr (Sum.inl x))) (hd : decode cc pc = .ok (.lload_n n, 1)) (X : LJ g p e R s m args below meth c nL nx0 Qe (pc + 1) ls (Sum.inr (Sum.inl x) :: st) S h) : LJ g p e R s m args below meth c nL nx0 Qe pc ls st S h := by
  intro H locs lr hH hZ hl hL hs hk hn
  exact lv_lload_n C.2.1 C.2.2.1 hd rfl (hL.2.2 _ _ hv) (X H locs lr hH hZ hl hL (List.forall_mem_cons.mpr ⟨hk _ _ hv, hs⟩) hk hn)
theorem zt_istore {n : Nat} {x : Int} (C : Cx g own p s m args c cc nL) (hb : n < nL) (hd : decode cc pc = .ok (.istore n, 2)) (X : LJ g p e R s m args below meth c nL nx0 Qe (pc + 2) (lset1 ls n (Sum.inl x)) st S h) : LJ g p e R s m args below meth c nL nx0 Qe pc ls (Sum.inl x :: st) S h := by
  intro H locs lr hH hZ hl hL hs hk hn
  have hs := List.forall_mem_cons.mp hs
  exact lv_istore C.2.1 C.2.2.1 hd hL.has hb rfl (fun lr' h' => X H locs lr' hH hZ hl (LcR.set1 h') hs.2 (hk.set1 hs.1) hn)
theorem zt_istore_n {n : Fin 4} {x : Int} (C : Cx g own p s m args c cc nL) (hb : n.val < nL) (hd : decode cc pc = .ok (.istore_n n, 1)) (X : LJ g p e R s m args below meth c nL nx0 Qe (pc + 1) (lset1 ls n.val (Sum.inl x)) st S h) : LJ g p e R s m args below meth c nL nx0 Qe pc ls (Sum.inl x :: st) S h := by
  intro H locs lr hH hZ hl hL hs hk hn
  have hs := List.forall_mem_cons.mp hs
  exact lv_istore_n C.2.1 C.2.2.1 hd rfl hL.has hb rfl (fun lr' h' => X H locs lr' hH hZ hl (LcR.set1 h') hs.2 (hk.set1 hs.1) hn)
theorem zt_lstore {n : Nat} {x : Int} (C : Cx g own p s m args c cc nL) (hb : n + 1 < nL) (hd : decode cc pc = .ok (.lstore n, 2)) (X : LJ g p e R s m args below meth c nL nx0 Qe (pc + 2) (lset2 ls n (Sum.inr (Sum.inl x))) st S h) : LJ g p e R s m args below meth c nL nx0 Qe pc ls (Sum.inr (Sum.inl x) :: st) S h := by
  intro H locs lr hH hZ hl hL hs hk hn
  have hs := List.forall_mem_cons.mp hs
  exact lv_lstore C.2.1 C.2.2.1 hd hL.has hb rfl (fun lr' h' => X H locs lr' hH hZ hl (LcR.set2 h') hs.2 (hk.set2 hs.1) hn)
theorem zt_lstore_n {n : Fin 4} {x : Int} (C : Cx g own p s m args c cc nL) (hb : n.val + 1 < nL) (hd : decode cc pc = .ok (.lstore_n n, 1)) (X : LJ g p e R s m args below meth c nL nx0 Qe (pc + 1) (lset2 ls n.val (Sum.inr (Sum.inl x))) st S h) : LJ g p e R s m args below meth c nL nx0 Qe pc ls (Sum.inr (Sum.inl x) :: st) S h := by
  intro H locs lr hH hZ hl hL hs hk hn
  have hs := List.forall_mem_cons.mp hs
  exact lv_lstore_n C.2.1 C.2.2.1 hd rfl hL.has hb rfl (fun lr' h' => X H locs lr' hH hZ hl (LcR.set2 h') hs.2 (hk.set2 hs.1) hn)
theorem zt_iinc {n : Nat} {x v : Int} (C : Cx g own p s m args c cc nL) (hv : lget ls n = some (Sum.inl x)) (hb : n < nL) (hd : decode cc pc = .ok (.iinc n v, 3)) (X : LJ g p e R s m args below meth c nL nx0 Qe (pc + 3) (lset1 ls n (Sum.inl (w32 (x + v)))) st S h) : LJ g p e R s m args below meth c nL nx0 Qe pc ls st S h := by
  intro H locs lr hH hZ hl hL hs hk hn
  obtain ⟨k, hk'⟩ := List.getElem?_of_mem (mem_aL (g := g) hv)
  refine lv_iinc C.2.1 C.2.2.1 hd hL.has (k := k) (x := Int32.ofInt x) (v := Int32.ofInt (w32 (x + v))) hk' (by rw [o32, Int32.ofInt_add]) hb rfl (fun lr' h' => X H locs lr' hH hZ hl (LcR.set1 h') hs (hk.set1 (inI_w _)) hn)
theorem zt_lconst {n : Fin 2} (C : Cx g own p s m args c cc nL) (hd : decode cc pc = .ok (.lconst n, 1)) (X : LJ g p e R s m args below meth c nL nx0 Qe (pc + 1) ls (Sum.inr (Sum.inl (n.val : Int)) :: st) S h) : LJ g p e R s m args below meth c nL nx0 Qe pc ls st S h := by
  intro H locs lr hH hZ hl hL hs hk hn
  have hx : inL (n.val : Int) := ⟨by omega, by omega⟩
  exact lv_lconst C.2.1 C.2.2.1 hd (by rw [Int64.ofInt_eq_ofNat]) (X H locs lr hH hZ hl hL (List.forall_mem_cons.mpr ⟨hx, hs⟩) hk hn)
theorem zt_null (C : Cx g own p s m args c cc nL) (hd : decode cc pc = .ok (.aconst_null, 1)) (X : LJ g p e R s m args below meth c nL nx0 Qe (pc + 1) ls (LR 0 0 :: st) S h) : LJ g p e R s m args below meth c nL nx0 Qe pc ls st S h := by
  intro H locs lr hH hZ hl hL hs hk hn
  exact lv_null C.2.1 C.2.2.1 hd (X H locs lr hH hZ hl hL (List.forall_mem_cons.mpr ⟨Or.inl rfl, hs⟩) hk hn)
theorem lwG_mem {w : Jvm.Cond} (h1 : w ∈ lw_tbl) (h2 : goodWord w = true) : w ∈ lwG := List.mem_filter.mpr ⟨h1, h2⟩
theorem zt_ldc2 {n : Nat} {x : Int} (C : Cx g own p s m args c cc nL) (hc : cpl own n = some x) (hn0 : n < 1000) (hd : decode cc pc = .ok (.ldc2_w n, 3)) (X : LJ g p e R s m args below meth c nL nx0 Qe (pc + 3) ls (Sum.inr (Sum.inl x) :: st) S h) : LJ g p e R s m args below meth c nL nx0 Qe pc ls st S h := by
  intro H locs lr hH hZ hl hL hs hk hn
  obtain ⟨h1, h2⟩ := lA_.get hc
  rw [show (own * 1000 + n) / 1000 = own by omega, show (own * 1000 + n) % 1000 = n by omega] at h2
  exact W.ldc2 C.2.1 C.2.2.1 C.2.2.2.2.1 (C.2.2.2.2.2.1 _ (lwG_mem h2 rfl)) rfl hd (X H locs lr hH hZ hl hL (List.forall_mem_cons.mpr ⟨h1, hs⟩) hk hn)
theorem zt_iadd {x y : Int} (C : Cx g own p s m args c cc nL) (hd : decode cc pc = .ok (.iadd, 1)) (X : LJ g p e R s m args below meth c nL nx0 Qe (pc + 1) ls (Sum.inl (w32 (x + y)) :: st) S h) : LJ g p e R s m args below meth c nL nx0 Qe pc ls (Sum.inl (y) :: Sum.inl (x) :: st) S h := by
  intro H locs lr hH hZ hl hL hs hk hn
  have hs := (List.forall_mem_cons.mp (List.forall_mem_cons.mp hs).2).2
  have K := X H locs lr hH hZ hl hL (List.forall_mem_cons.mpr ⟨inI_i _, hs⟩) hk hn
  have E : Int32.ofInt (w32 (x + y)) = Int32.ofInt x + Int32.ofInt y := by rw [o32, Int32.ofInt_add]
  rw [List.map_cons] at K
  simp only [cv] at K
  rw [E] at K
  exact lv_iadd C.2.1 C.2.2.1 hd K
theorem zt_isub {x y : Int} (C : Cx g own p s m args c cc nL) (hd : decode cc pc = .ok (.isub, 1)) (X : LJ g p e R s m args below meth c nL nx0 Qe (pc + 1) ls (Sum.inl (w32 (x - y)) :: st) S h) : LJ g p e R s m args below meth c nL nx0 Qe pc ls (Sum.inl (y) :: Sum.inl (x) :: st) S h := by
  intro H locs lr hH hZ hl hL hs hk hn
  have hs := (List.forall_mem_cons.mp (List.forall_mem_cons.mp hs).2).2
  have K := X H locs lr hH hZ hl hL (List.forall_mem_cons.mpr ⟨inI_i _, hs⟩) hk hn
  have E : Int32.ofInt (w32 (x - y)) = Int32.ofInt x - Int32.ofInt y := by rw [o32, Int32.ofInt_sub]
  rw [List.map_cons] at K
  simp only [cv] at K
  rw [E] at K
  exact lv_isub C.2.1 C.2.2.1 hd K
theorem zt_imul {x y : Int} (C : Cx g own p s m args c cc nL) (hd : decode cc pc = .ok (.imul, 1)) (X : LJ g p e R s m args below meth c nL nx0 Qe (pc + 1) ls (Sum.inl (w32 (x * y)) :: st) S h) : LJ g p e R s m args below meth c nL nx0 Qe pc ls (Sum.inl (y) :: Sum.inl (x) :: st) S h := by
  intro H locs lr hH hZ hl hL hs hk hn
  have hs := (List.forall_mem_cons.mp (List.forall_mem_cons.mp hs).2).2
  have K := X H locs lr hH hZ hl hL (List.forall_mem_cons.mpr ⟨inI_i _, hs⟩) hk hn
  have E : Int32.ofInt (w32 (x * y)) = Int32.ofInt x * Int32.ofInt y := by rw [o32, Int32.ofInt_mul]
  rw [List.map_cons] at K
  simp only [cv] at K
  rw [E] at K
  exact lv_imul C.2.1 C.2.2.1 hd K
theorem zt_iand {x y : Int} (C : Cx g own p s m args c cc nL) (hd : decode cc pc = .ok (.iand, 1)) (X : LJ g p e R s m args below meth c nL nx0 Qe (pc + 1) ls (Sum.inl (iandI x y) :: st) S h) : LJ g p e R s m args below meth c nL nx0 Qe pc ls (Sum.inl (y) :: Sum.inl (x) :: st) S h := by
  intro H locs lr hH hZ hl hL hs hk hn
  have hs := (List.forall_mem_cons.mp (List.forall_mem_cons.mp hs).2).2
  have K := X H locs lr hH hZ hl hL (List.forall_mem_cons.mpr ⟨inI_i _, hs⟩) hk hn
  have E : Int32.ofInt (iandI x y) = Int32.ofInt x &&& Int32.ofInt y := by rw [iandI, Int32.ofInt_toInt]
  rw [List.map_cons] at K
  simp only [cv] at K
  rw [E] at K
  exact lv_iand C.2.1 C.2.2.1 hd K
theorem zt_ior {x y : Int} (C : Cx g own p s m args c cc nL) (hd : decode cc pc = .ok (.ior, 1)) (X : LJ g p e R s m args below meth c nL nx0 Qe (pc + 1) ls (Sum.inl (iorI x y) :: st) S h) : LJ g p e R s m args below meth c nL nx0 Qe pc ls (Sum.inl (y) :: Sum.inl (x) :: st) S h := by
  intro H locs lr hH hZ hl hL hs hk hn
  have hs := (List.forall_mem_cons.mp (List.forall_mem_cons.mp hs).2).2
  have K := X H locs lr hH hZ hl hL (List.forall_mem_cons.mpr ⟨inI_i _, hs⟩) hk hn
  have E : Int32.ofInt (iorI x y) = Int32.ofInt x ||| Int32.ofInt y := by rw [iorI, Int32.ofInt_toInt]
  rw [List.map_cons] at K
  simp only [cv] at K
  rw [E] at K
  exact lv_ior C.2.1 C.2.2.1 hd K
theorem zt_ishl {x y : Int} (C : Cx g own p s m args c cc nL) (hd : decode cc pc = .ok (.ishl, 1)) (X : LJ g p e R s m args below meth c nL nx0 Qe (pc + 1) ls (Sum.inl (ishlI x y) :: st) S h) : LJ g p e R s m args below meth c nL nx0 Qe pc ls (Sum.inl (y) :: Sum.inl (x) :: st) S h := by
  intro H locs lr hH hZ hl hL hs hk hn
  have hs := (List.forall_mem_cons.mp (List.forall_mem_cons.mp hs).2).2
  have K := X H locs lr hH hZ hl hL (List.forall_mem_cons.mpr ⟨inI_i _, hs⟩) hk hn
  have E : Int32.ofInt (ishlI x y) = Int32.ofInt x <<< (Int32.ofInt y &&& 31) := by rw [ishlI, Int32.ofInt_toInt]
  rw [List.map_cons] at K
  simp only [cv] at K
  rw [E] at K
  exact lv_ishl C.2.1 C.2.2.1 hd K
theorem zt_ishr {x y : Int} (C : Cx g own p s m args c cc nL) (hd : decode cc pc = .ok (.ishr, 1)) (X : LJ g p e R s m args below meth c nL nx0 Qe (pc + 1) ls (Sum.inl (ishrI x y) :: st) S h) : LJ g p e R s m args below meth c nL nx0 Qe pc ls (Sum.inl (y) :: Sum.inl (x) :: st) S h := by
  intro H locs lr hH hZ hl hL hs hk hn
  have hs := (List.forall_mem_cons.mp (List.forall_mem_cons.mp hs).2).2
  have K := X H locs lr hH hZ hl hL (List.forall_mem_cons.mpr ⟨inI_i _, hs⟩) hk hn
  have E : Int32.ofInt (ishrI x y) = Int32.ofInt x >>> (Int32.ofInt y &&& 31) := by rw [ishrI, Int32.ofInt_toInt]
  rw [List.map_cons] at K
  simp only [cv] at K
  rw [E] at K
  exact lv_ishr C.2.1 C.2.2.1 hd K
theorem zt_ladd {x y : Int} (C : Cx g own p s m args c cc nL) (hd : decode cc pc = .ok (.ladd, 1)) (X : LJ g p e R s m args below meth c nL nx0 Qe (pc + 1) ls (Sum.inr (Sum.inl (w64 (x + y))) :: st) S h) : LJ g p e R s m args below meth c nL nx0 Qe pc ls (Sum.inr (Sum.inl (y)) :: Sum.inr (Sum.inl (x)) :: st) S h := by
  intro H locs lr hH hZ hl hL hs hk hn
  have hs := (List.forall_mem_cons.mp (List.forall_mem_cons.mp hs).2).2
  have K := X H locs lr hH hZ hl hL (List.forall_mem_cons.mpr ⟨inL_i _, hs⟩) hk hn
  have E : Int64.ofInt (w64 (x + y)) = Int64.ofInt x + Int64.ofInt y := by rw [o64, Int64.ofInt_add]
  rw [List.map_cons] at K
  simp only [cv] at K
  rw [E] at K
  exact lv_ladd C.2.1 C.2.2.1 hd K
theorem zt_lsub {x y : Int} (C : Cx g own p s m args c cc nL) (hd : decode cc pc = .ok (.lsub, 1)) (X : LJ g p e R s m args below meth c nL nx0 Qe (pc + 1) ls (Sum.inr (Sum.inl (w64 (x - y))) :: st) S h) : LJ g p e R s m args below meth c nL nx0 Qe pc ls (Sum.inr (Sum.inl (y)) :: Sum.inr (Sum.inl (x)) :: st) S h := by
  intro H locs lr hH hZ hl hL hs hk hn
  have hs := (List.forall_mem_cons.mp (List.forall_mem_cons.mp hs).2).2
  have K := X H locs lr hH hZ hl hL (List.forall_mem_cons.mpr ⟨inL_i _, hs⟩) hk hn
  have E : Int64.ofInt (w64 (x - y)) = Int64.ofInt x - Int64.ofInt y := by rw [o64, Int64.ofInt_sub]
  rw [List.map_cons] at K
  simp only [cv] at K
  rw [E] at K
  exact lv_lsub C.2.1 C.2.2.1 hd K
theorem zt_lmul {x y : Int} (C : Cx g own p s m args c cc nL) (hd : decode cc pc = .ok (.lmul, 1)) (X : LJ g p e R s m args below meth c nL nx0 Qe (pc + 1) ls (Sum.inr (Sum.inl (w64 (x * y))) :: st) S h) : LJ g p e R s m args below meth c nL nx0 Qe pc ls (Sum.inr (Sum.inl (y)) :: Sum.inr (Sum.inl (x)) :: st) S h := by
  intro H locs lr hH hZ hl hL hs hk hn
  have hs := (List.forall_mem_cons.mp (List.forall_mem_cons.mp hs).2).2
  have K := X H locs lr hH hZ hl hL (List.forall_mem_cons.mpr ⟨inL_i _, hs⟩) hk hn
  have E : Int64.ofInt (w64 (x * y)) = Int64.ofInt x * Int64.ofInt y := by rw [o64, Int64.ofInt_mul]
  rw [List.map_cons] at K
  simp only [cv] at K
  rw [E] at K
  exact lv_lmul C.2.1 C.2.2.1 hd K
theorem zt_iushr {x y : Int} (C : Cx g own p s m args c cc nL) (hd : decode cc pc = .ok (.iushr, 1)) (X : LJ g p e R s m args below meth c nL nx0 Qe (pc + 1) ls (Sum.inl (iushrI x y) :: st) S h) : LJ g p e R s m args below meth c nL nx0 Qe pc ls (Sum.inl y :: Sum.inl x :: st) S h := by
  intro H locs lr hH hZ hl hL hs hk hn
  have hs := (List.forall_mem_cons.mp (List.forall_mem_cons.mp hs).2).2
  exact lv_iushr C.2.1 C.2.2.1 hd (by rw [iushrI, Int32.ofInt_toInt]) (X H locs lr hH hZ hl hL (List.forall_mem_cons.mpr ⟨inI_i _, hs⟩) hk hn)
theorem zt_idiv {x y : Int} (C : Cx g own p s m args c cc nL) (hy : y ≠ 0) (hd : decode cc pc = .ok (.idiv, 1)) (X : LJ g p e R s m args below meth c nL nx0 Qe (pc + 1) ls (Sum.inl (w32 (Int.tdiv x y)) :: st) S h) : LJ g p e R s m args below meth c nL nx0 Qe pc ls (Sum.inl (y) :: Sum.inl (x) :: st) S h := by
  intro H locs lr hH hZ hl hL hs hk hn
  have h1 := List.forall_mem_cons.mp hs
  have h2 := List.forall_mem_cons.mp h1.2
  have ky : inI y := h1.1
  have kx : inI x := h2.1
  have K := X H locs lr hH hZ hl hL (List.forall_mem_cons.mpr ⟨inI_i _, h2.2⟩) hk hn
  have ED : Int32.ofInt x / Int32.ofInt y = Int32.ofInt (Int.tdiv x y) := by
    rw [← Int32.toInt_inj, Int32.toInt_div, t32 kx, t32 ky, Int32.toInt_ofInt]
  have E : Int32.ofInt (w32 (Int.tdiv x y)) = Int32.ofInt x / Int32.ofInt y := by
    rw [o32, ED]
  have hne : ¬ Int32.ofInt y = 0 := fun q => hy ((eq32 ky ⟨by decide, by decide⟩).mp q)
  rw [List.map_cons] at K
  simp only [cv] at K
  rw [E] at K
  exact lv_idiv C.2.1 C.2.2.1 hd hne K
theorem zt_irem {x y : Int} (C : Cx g own p s m args c cc nL) (hy : y ≠ 0) (hd : decode cc pc = .ok (.irem, 1)) (X : LJ g p e R s m args below meth c nL nx0 Qe (pc + 1) ls (Sum.inl (w32 (x - Int.tdiv x y * y)) :: st) S h) : LJ g p e R s m args below meth c nL nx0 Qe pc ls (Sum.inl (y) :: Sum.inl (x) :: st) S h := by
  intro H locs lr hH hZ hl hL hs hk hn
  have h1 := List.forall_mem_cons.mp hs
  have h2 := List.forall_mem_cons.mp h1.2
  have ky : inI y := h1.1
  have kx : inI x := h2.1
  have K := X H locs lr hH hZ hl hL (List.forall_mem_cons.mpr ⟨inI_i _, h2.2⟩) hk hn
  have ED : Int32.ofInt x / Int32.ofInt y = Int32.ofInt (Int.tdiv x y) := by
    rw [← Int32.toInt_inj, Int32.toInt_div, t32 kx, t32 ky, Int32.toInt_ofInt]
  have E : Int32.ofInt (w32 (x - Int.tdiv x y * y)) = Int32.ofInt x - Int32.ofInt x / Int32.ofInt y * Int32.ofInt y := by
    rw [o32, ED, Int32.ofInt_sub, Int32.ofInt_mul]
  have hne : ¬ Int32.ofInt y = 0 := fun q => hy ((eq32 ky ⟨by decide, by decide⟩).mp q)
  rw [List.map_cons] at K
  simp only [cv] at K
  rw [E] at K
  exact lv_irem C.2.1 C.2.2.1 hd hne K
theorem zt_ldiv {x y : Int} (C : Cx g own p s m args c cc nL) (hy : y ≠ 0) (hd : decode cc pc = .ok (.ldiv, 1)) (X : LJ g p e R s m args below meth c nL nx0 Qe (pc + 1) ls (Sum.inr (Sum.inl (w64 (Int.tdiv x y))) :: st) S h) : LJ g p e R s m args below meth c nL nx0 Qe pc ls (Sum.inr (Sum.inl (y)) :: Sum.inr (Sum.inl (x)) :: st) S h := by
  intro H locs lr hH hZ hl hL hs hk hn
  have h1 := List.forall_mem_cons.mp hs
  have h2 := List.forall_mem_cons.mp h1.2
  have ky : inL y := h1.1
  have kx : inL x := h2.1
  have K := X H locs lr hH hZ hl hL (List.forall_mem_cons.mpr ⟨inL_i _, h2.2⟩) hk hn
  have ED : Int64.ofInt x / Int64.ofInt y = Int64.ofInt (Int.tdiv x y) := by
    rw [← Int64.toInt_inj, Int64.toInt_div, t64 kx, t64 ky, Int64.toInt_ofInt]
  have E : Int64.ofInt (w64 (Int.tdiv x y)) = Int64.ofInt x / Int64.ofInt y := by
    rw [o64, ED]
  have hne : ¬ Int64.ofInt y = 0 := fun q => hy ((eq64 ky ⟨by decide, by decide⟩).mp q)
  rw [List.map_cons] at K
  simp only [cv] at K
  rw [E] at K
  exact lv_ldiv C.2.1 C.2.2.1 hd hne K
theorem zt_lrem {x y : Int} (C : Cx g own p s m args c cc nL) (hy : y ≠ 0) (hd : decode cc pc = .ok (.lrem, 1)) (X : LJ g p e R s m args below meth c nL nx0 Qe (pc + 1) ls (Sum.inr (Sum.inl (w64 (x - Int.tdiv x y * y))) :: st) S h) : LJ g p e R s m args below meth c nL nx0 Qe pc ls (Sum.inr (Sum.inl (y)) :: Sum.inr (Sum.inl (x)) :: st) S h := by
  intro H locs lr hH hZ hl hL hs hk hn
  have h1 := List.forall_mem_cons.mp hs
  have h2 := List.forall_mem_cons.mp h1.2
  have ky : inL y := h1.1
  have kx : inL x := h2.1
  have K := X H locs lr hH hZ hl hL (List.forall_mem_cons.mpr ⟨inL_i _, h2.2⟩) hk hn
  have ED : Int64.ofInt x / Int64.ofInt y = Int64.ofInt (Int.tdiv x y) := by
    rw [← Int64.toInt_inj, Int64.toInt_div, t64 kx, t64 ky, Int64.toInt_ofInt]
  have E : Int64.ofInt (w64 (x - Int.tdiv x y * y)) = Int64.ofInt x - Int64.ofInt x / Int64.ofInt y * Int64.ofInt y := by
    rw [o64, ED, Int64.ofInt_sub, Int64.ofInt_mul]
  have hne : ¬ Int64.ofInt y = 0 := fun q => hy ((eq64 ky ⟨by decide, by decide⟩).mp q)
  rw [List.map_cons] at K
  simp only [cv] at K
  rw [E] at K
  exact lv_lrem C.2.1 C.2.2.1 hd hne K
theorem zt_lneg {x : Int} (C : Cx g own p s m args c cc nL) (hd : decode cc pc = .ok (.lneg, 1)) (X : LJ g p e R s m args below meth c nL nx0 Qe (pc + 1) ls (Sum.inr (Sum.inl (w64 (-x))) :: st) S h) : LJ g p e R s m args below meth c nL nx0 Qe pc ls (Sum.inr (Sum.inl x) :: st) S h := by
  intro H locs lr hH hZ hl hL hs hk hn
  have hs := (List.forall_mem_cons.mp hs).2
  have K := X H locs lr hH hZ hl hL (List.forall_mem_cons.mpr ⟨inL_i _, hs⟩) hk hn
  rw [List.map_cons] at K
  simp only [cv] at K
  rw [o64] at K
  refine lv_lneg C.2.1 C.2.2.1 hd ?_
  first
    | (rw [← Int64.ofInt_neg]; exact K)
    | (rw [show (0 : Int64) - Int64.ofInt x = Int64.ofInt (-x) by rw [Int64.ofInt_neg]; simp]; exact K)
theorem zt_lcmp {x y : Int} (C : Cx g own p s m args c cc nL) (hd : decode cc pc = .ok (.lcmp, 1)) (X : LJ g p e R s m args below meth c nL nx0 Qe (pc + 1) ls (Sum.inl (lcmpI x y) :: st) S h) : LJ g p e R s m args below meth c nL nx0 Qe pc ls (Sum.inr (Sum.inl y) :: Sum.inr (Sum.inl x) :: st) S h := by
  intro H locs lr hH hZ hl hL hs hk hn
  have h1 := List.forall_mem_cons.mp hs
  have h2 := List.forall_mem_cons.mp h1.2
  have ky : inL y := h1.1
  have kx : inL x := h2.1
  have hr : inI (lcmpI x y) := by unfold lcmpI inI; split <;> (try split) <;> decide
  have K := X H locs lr hH hZ hl hL (List.forall_mem_cons.mpr ⟨hr, h2.2⟩) hk hn
  have E : Int32.ofInt (lcmpI x y) = lg_cmp (Int64.ofInt x) (Int64.ofInt y) := by
    unfold lcmpI lg_cmp
    by_cases q1 : x > y
    · rw [if_pos q1, if_pos ((lt64 ky kx).mpr q1)]
      rfl
    · rw [if_neg q1, if_neg (fun z => q1 ((lt64 ky kx).mp z))]
      by_cases q2 : x = y
      · rw [if_pos q2, if_pos ((eq64 kx ky).mpr q2)]
        rfl
      · rw [if_neg q2, if_neg (fun z => q2 ((eq64 kx ky).mp z))]
        rfl
  rw [List.map_cons] at K
  simp only [cv] at K
  rw [E] at K
  exact W.lcmp C.2.1 C.2.2.1 hd K
theorem zt_i2l {x : Int} (C : Cx g own p s m args c cc nL) (hd : decode cc pc = .ok (.i2l, 1)) (X : LJ g p e R s m args below meth c nL nx0 Qe (pc + 1) ls (Sum.inr (Sum.inl x) :: st) S h) : LJ g p e R s m args below meth c nL nx0 Qe pc ls (Sum.inl x :: st) S h := by
  intro H locs lr hH hZ hl hL hs hk hn
  have h1 := List.forall_mem_cons.mp hs
  have kx : inI x := h1.1
  have kl : inL x := ⟨by have := kx.1; omega, by have := kx.2; omega⟩
  refine lv_i2l C.2.1 C.2.2.1 hd ?_ (X H locs lr hH hZ hl hL (List.forall_mem_cons.mpr ⟨kl, h1.2⟩) hk hn)
  rw [← Int64.toInt_inj, Int32.toInt_toInt64, t32 kx, t64 kl]
theorem zt_l2i {x : Int} (C : Cx g own p s m args c cc nL) (hd : decode cc pc = .ok (.l2i, 1)) (X : LJ g p e R s m args below meth c nL nx0 Qe (pc + 1) ls (Sum.inl (w32 x) :: st) S h) : LJ g p e R s m args below meth c nL nx0 Qe pc ls (Sum.inr (Sum.inl x) :: st) S h := by
  intro H locs lr hH hZ hl hL hs hk hn
  have h1 := List.forall_mem_cons.mp hs
  refine lv_l2i C.2.1 C.2.2.1 hd ?_ (X H locs lr hH hZ hl hL (List.forall_mem_cons.mpr ⟨inI_w _, h1.2⟩) hk hn)
  rw [o32, Int64.toInt32_ofInt]
theorem zt_i2b {x : Int} (C : Cx g own p s m args c cc nL) (hd : decode cc pc = .ok (.i2b, 1)) (X : LJ g p e R s m args below meth c nL nx0 Qe (pc + 1) ls (Sum.inl (w8 x) :: st) S h) : LJ g p e R s m args below meth c nL nx0 Qe pc ls (Sum.inl x :: st) S h := by
  intro H locs lr hH hZ hl hL hs hk hn
  have h1 := List.forall_mem_cons.mp hs
  have hb : inI (w8 x) := ⟨by have := Int8.le_toInt (Int32.ofInt x).toInt8; unfold w8; omega, by have := Int8.toInt_lt (Int32.ofInt x).toInt8; unfold w8; omega⟩
  refine lv_i2b C.2.1 C.2.2.1 hd ?_ (X H locs lr hH hZ hl hL (List.forall_mem_cons.mpr ⟨hb, h1.2⟩) hk hn)
  rw [← Int32.toInt_inj, Int8.toInt_toInt32, t32 hb, w8]
theorem zt_dup {v : LV} (C : Cx g own p s m args c cc nL) (hv : lcat v = 1) (hd : decode cc pc = .ok (.dup, 1)) (X : LJ g p e R s m args below meth c nL nx0 Qe (pc + 1) ls (v :: v :: st) S h) : LJ g p e R s m args below meth c nL nx0 Qe pc ls (v :: st) S h := by
  intro H locs lr hH hZ hl hL hs hk hn
  exact lv_dup C.2.1 C.2.2.1 hd ((lcat_cv g v).trans hv) (X H locs lr hH hZ hl hL (List.forall_mem_cons.mpr ⟨(List.forall_mem_cons.mp hs).1, hs⟩) hk hn)
theorem zt_pop {v : LV} (C : Cx g own p s m args c cc nL) (hv : lcat v = 1) (hd : decode cc pc = .ok (.pop, 1)) (X : LJ g p e R s m args below meth c nL nx0 Qe (pc + 1) ls st S h) : LJ g p e R s m args below meth c nL nx0 Qe pc ls (v :: st) S h := by
  intro H locs lr hH hZ hl hL hs hk hn
  exact lv_pop C.2.1 C.2.2.1 hd ((lcat_cv g v).trans hv) (X H locs lr hH hZ hl hL (List.forall_mem_cons.mp hs).2 hk hn)
theorem zt_dup2 {v u : LV} (C : Cx g own p s m args c cc nL) (hv : lcat v = 1) (hu : lcat u = 1) (hd : decode cc pc = .ok (.dup2, 1)) (X : LJ g p e R s m args below meth c nL nx0 Qe (pc + 1) ls (v :: u :: v :: u :: st) S h) : LJ g p e R s m args below meth c nL nx0 Qe pc ls (v :: u :: st) S h := by
  intro H locs lr hH hZ hl hL hs hk hn
  have h1 := List.forall_mem_cons.mp hs
  have h2 := List.forall_mem_cons.mp h1.2
  exact lv_dup2_11 C.2.1 C.2.2.1 hd ((lcat_cv g v).trans hv) ((lcat_cv g u).trans hu) (X H locs lr hH hZ hl hL (List.forall_mem_cons.mpr ⟨h1.1, List.forall_mem_cons.mpr ⟨h2.1, hs⟩⟩) hk hn)
theorem tgt_eq {pc t : Nat} {off : Int} (h0 : 0 ≤ (pc : Int) + off) (h : tgt pc off = t) : (pc : Int) + off = (t : Int) := by
  subst h
  unfold tgt
  omega
theorem zt_goto {off : Int} (C : Cx g own p s m args c cc nL) (h0 : 0 ≤ (pc : Int) + off) (hd : decode cc pc = .ok (.goto off, 3)) (X : LJ g p e R s m args below meth c nL nx0 Qe (tgt pc off) ls st S h) : LJ g p e R s m args below meth c nL nx0 Qe pc ls st S h := by
  intro H locs lr hH hZ hl hL hs hk hn
  exact lv_goto C.2.1 C.2.2.1 hd (tgt_eq h0 rfl) (X H locs lr hH hZ hl hL hs hk hn)
theorem zt_icmp {q : ClassFile.Cond} {x y : Int} {off : Int} {A B : Prop} (C : Cx g own p s m args c cc nL) (h0 : 0 ≤ (pc : Int) + off) (hd : decode cc pc = .ok (.if_icmp q off, 3)) (hT : Tif q x y A B) (hA : A → LJ g p e R s m args below meth c nL nx0 Qe (tgt pc off) ls st S h) (hB : B → LJ g p e R s m args below meth c nL nx0 Qe (pc + 3) ls st S h) : LJ g p e R s m args below meth c nL nx0 Qe pc ls (Sum.inl y :: Sum.inl x :: st) S h := by
  intro H locs lr hH hZ hl hL hs hk hn
  have h1 := List.forall_mem_cons.mp hs
  have h2 := List.forall_mem_cons.mp h1.2
  have ky : inI y := h1.1
  have kx : inI x := h2.1
  have KA := fun a => hA a H locs lr hH hZ hl hL h2.2 hk hn
  have KB := fun b => hB b H locs lr hH hZ hl hL h2.2 hk hn
  cases q with
  | eq => exact lv_icmp_eq C.2.1 C.2.2.1 hd (tgt_eq h0 rfl) (fun z => KA (hT.1 ((eq32 kx ky).mp z))) (fun z => KB (hT.2 (fun q => z ((eq32 kx ky).mpr q))))
  | ne => exact lv_icmp_ne C.2.1 C.2.2.1 hd (tgt_eq h0 rfl) (fun z => KA (hT.1 (fun q => z ((eq32 kx ky).mpr q)))) (fun z => KB (hT.2 ((eq32 kx ky).mp z)))
  | lt => exact lv_icmp_lt C.2.1 C.2.2.1 hd (tgt_eq h0 rfl) (fun z => KA (hT.1 ((lt32 kx ky).mp z))) (fun z => KB (hT.2 (fun q => z ((lt32 kx ky).mpr q))))
  | ge => exact lv_icmp_ge C.2.1 C.2.2.1 hd (tgt_eq h0 rfl) (fun z => KA (hT.1 ((le32 ky kx).mp z))) (fun z => KB (hT.2 (fun q => z ((le32 ky kx).mpr q))))
  | gt => exact lv_icmp_gt C.2.1 C.2.2.1 hd (tgt_eq h0 rfl) (fun z => KA (hT.1 ((lt32 ky kx).mp z))) (fun z => KB (hT.2 (fun q => z ((lt32 ky kx).mpr q))))
  | le => exact lv_icmp_le C.2.1 C.2.2.1 hd (tgt_eq h0 rfl) (fun z => KA (hT.1 ((le32 kx ky).mp z))) (fun z => KB (hT.2 (fun q => z ((le32 kx ky).mpr q))))
theorem zt_ifc {q : ClassFile.Cond} {x : Int} {off : Int} {A B : Prop} (C : Cx g own p s m args c cc nL) (h0 : 0 ≤ (pc : Int) + off) (hd : decode cc pc = .ok (.ifCond q off, 3)) (hT : Tif q x 0 A B) (hA : A → LJ g p e R s m args below meth c nL nx0 Qe (tgt pc off) ls st S h) (hB : B → LJ g p e R s m args below meth c nL nx0 Qe (pc + 3) ls st S h) : LJ g p e R s m args below meth c nL nx0 Qe pc ls (Sum.inl x :: st) S h := by
  intro H locs lr hH hZ hl hL hs hk hn
  have h1 := List.forall_mem_cons.mp hs
  have kx : inI x := h1.1
  have ky : inI 0 := inI_0
  have KA := fun a => hA a H locs lr hH hZ hl hL h1.2 hk hn
  have KB := fun b => hB b H locs lr hH hZ hl hL h1.2 hk hn
  cases q with
  | eq => exact lv_if_eq C.2.1 C.2.2.1 hd (tgt_eq h0 rfl) (fun z => KA (hT.1 ((eq32 kx ky).mp z))) (fun z => KB (hT.2 (fun q => z ((eq32 kx ky).mpr q))))
  | ne => exact lv_if_ne C.2.1 C.2.2.1 hd (tgt_eq h0 rfl) (fun z => KA (hT.1 (fun q => z ((eq32 kx ky).mpr q)))) (fun z => KB (hT.2 ((eq32 kx ky).mp z)))
  | lt => exact lv_if_lt C.2.1 C.2.2.1 hd (tgt_eq h0 rfl) (fun z => KA (hT.1 ((lt32 kx ky).mp z))) (fun z => KB (hT.2 (fun q => z ((lt32 kx ky).mpr q))))
  | ge => exact lv_if_ge C.2.1 C.2.2.1 hd (tgt_eq h0 rfl) (fun z => KA (hT.1 ((le32 ky kx).mp z))) (fun z => KB (hT.2 (fun q => z ((le32 ky kx).mpr q))))
  | gt => exact lv_if_gt C.2.1 C.2.2.1 hd (tgt_eq h0 rfl) (fun z => KA (hT.1 ((lt32 ky kx).mp z))) (fun z => KB (hT.2 (fun q => z ((lt32 ky kx).mpr q))))
  | le => exact lv_if_le C.2.1 C.2.2.1 hd (tgt_eq h0 rfl) (fun z => KA (hT.1 ((le32 kx ky).mp z))) (fun z => KB (hT.2 (fun q => z ((le32 kx ky).mpr q))))
theorem zt_ifnull {r : Nat × Int} {off : Int} {A B : Prop} (C : Cx g own p s m args c cc nL) (h0 : 0 ≤ (pc : Int) + off) (hd : decode cc pc = .ok (.ifnull off, 3)) (hA : r.2 = 0 → LJ g p e R s m args below meth c nL nx0 Qe (tgt pc off) ls st S h) (hB : ¬ r.2 = 0 → LJ g p e R s m args below meth c nL nx0 Qe (pc + 3) ls st S h) : LJ g p e R s m args below meth c nL nx0 Qe pc ls (Sum.inr (Sum.inr r) :: st) S h := by
  intro H locs lr hH hZ hl hL hs hk hn
  have h1 := List.forall_mem_cons.mp hs
  rw [List.map_cons]
  simp only [cv, rfv]
  by_cases z : r.2 = 0
  · rw [if_pos z]
    exact lv_ifnullN C.2.1 C.2.2.1 hd (tgt_eq h0 rfl) (hA z H locs lr hH hZ hl hL h1.2 hk hn)
  · rw [if_neg z]
    exact lv_ifnull C.2.1 C.2.2.1 hd (hB z H locs lr hH hZ hl hL h1.2 hk hn)
theorem zt_ifnonnull {r : Nat × Int} {off : Int} {A B : Prop} (C : Cx g own p s m args c cc nL) (h0 : 0 ≤ (pc : Int) + off) (hd : decode cc pc = .ok (.ifnonnull off, 3)) (hA : ¬ r.2 = 0 → LJ g p e R s m args below meth c nL nx0 Qe (tgt pc off) ls st S h) (hB : r.2 = 0 → LJ g p e R s m args below meth c nL nx0 Qe (pc + 3) ls st S h) : LJ g p e R s m args below meth c nL nx0 Qe pc ls (Sum.inr (Sum.inr r) :: st) S h := by
  intro H locs lr hH hZ hl hL hs hk hn
  have h1 := List.forall_mem_cons.mp hs
  rw [List.map_cons]
  simp only [cv, rfv]
  by_cases z : r.2 = 0
  · rw [if_pos z]
    exact lv_ifnonnullN C.2.1 C.2.2.1 hd (hB z H locs lr hH hZ hl hL h1.2 hk hn)
  · rw [if_neg z]
    exact lv_ifnonnull C.2.1 C.2.2.1 hd (tgt_eq h0 rfl) (hA z H locs lr hH hZ hl hL h1.2 hk hn)
theorem zt_acmp_ne {q r : Nat × Int} {off : Int} (C : Cx g own p s m args c cc nL) (h0 : 0 ≤ (pc : Int) + off) (h1 : q.2 = 0 ∨ 4 ≤ q.2) (h2 : r.2 = 0 ∨ 4 ≤ r.2) (hd : decode cc pc = .ok (.if_acmp .ne off, 3)) (hA : ¬ r.2 = q.2 → LJ g p e R s m args below meth c nL nx0 Qe (tgt pc off) ls st S h) (hB : r.2 = q.2 → LJ g p e R s m args below meth c nL nx0 Qe (pc + 3) ls st S h) : LJ g p e R s m args below meth c nL nx0 Qe pc ls (Sum.inr (Sum.inr q) :: Sum.inr (Sum.inr r) :: st) S h := by
  intro H locs lr hH hZ hl hL hs hk hn
  have a1 := List.forall_mem_cons.mp hs
  have a2 := List.forall_mem_cons.mp a1.2
  have hG := C.2.2.2.2.2.2.1
  have e1 : ∀ x : Int, rfv g x = va_rf (if x = 0 then none else some (gR g x)) := fun x => by
    unfold rfv
    split <;> rfl
  have inj : ((if r.2 = 0 then none else some (gR g r.2)) = (if q.2 = 0 then none else some (gR g q.2))) ↔ r.2 = q.2 := by
    constructor
    · intro z
      rcases h1 with z1 | z1
      · rw [if_pos z1] at z
        by_cases z2 : r.2 = 0
        · rw [z1, z2]
        · rw [if_neg z2] at z; cases z
      · rw [if_neg (show ¬ q.2 = 0 by omega)] at z
        rcases h2 with z2 | z2
        · rw [if_pos z2] at z; cases z
        · rw [if_neg (show ¬ r.2 = 0 by omega)] at z
          have z := Option.some.inj z
          rw [hG.1 _ z1, hG.1 _ z2] at z
          omega
    · intro z; rw [z]
  rw [List.map_cons, List.map_cons]
  simp only [cv]
  rw [e1, e1]
  exact lv_acmp_ne C.2.1 C.2.2.1 hd (tgt_eq h0 rfl) (fun z => hA (fun y => z (inj.mpr y)) H locs lr hH hZ hl hL a2.2 hk hn) (fun z => hB (inj.mp z) H locs lr hH hZ hl hL a2.2 hk hn)
theorem swV_get {x : Int} {J : Int → Prop} : ∀ {os : List Int} {lo : Int} {o : Int}, swV x J lo os → lo ≤ x → os[(x - lo).toNat]? = some o → J o
  | [], lo, o, _, _, ho => by simp at ho
  | a :: os, lo, o, hs, hlo, ho => by
    by_cases hx : x = lo
    · rw [show (x - lo).toNat = 0 by omega] at ho
      simp at ho
      subst ho
      exact hs.1 hx
    · rw [show (x - lo).toNat = (x - (lo + 1)).toNat + 1 by omega] at ho
      simp only [List.getElem?_cons_succ] at ho
      exact swV_get hs.2 (by omega) ho
theorem zt_table {x df lo hi : Int} {offs : Array Int} {len : Nat} {J : Nat → Prop} (C : Cx g own p s m args c cc nL) (hd : decode cc pc = .ok (.tableswitch df lo hi offs, len)) (hb : 0 ≤ (pc : Int) + df ∧ (∀ o ∈ offs.toList, 0 ≤ (pc : Int) + o) ∧ hi - lo < offs.size)
    (hD : (x < lo ∨ hi < x) → J (tgt pc df)) (hT : swV x (fun o => J (tgt pc o)) lo offs.toList) (hJ : ∀ t, J t → LJ g p e R s m args below meth c nL nx0 Qe t ls st S h) : LJ g p e R s m args below meth c nL nx0 Qe pc ls (Sum.inl x :: st) S h := by
  intro H locs lr hH hZ hl hL hs hk hn
  have h1 := List.forall_mem_cons.mp hs
  have kx : inI x := h1.1
  by_cases z : x < lo ∨ hi < x
  · exact lv_tableOut C.2.1 C.2.2.1 hd (by rw [t32 kx]; exact z) (tgt_eq hb.1 rfl) (hJ _ (hD z) H locs lr hH hZ hl hL h1.2 hk hn)
  · have hlt : (x - lo).toNat < offs.size := by omega
    have ho : offs[(x - lo).toNat]? = some offs[(x - lo).toNat] := Array.getElem?_eq_getElem hlt
    have hl2 : offs.toList[(x - lo).toNat]? = some offs[(x - lo).toNat] := by rw [Array.getElem?_toList]; exact ho
    exact lv_tableIn C.2.1 C.2.2.1 hd (by rw [t32 kx]; omega) (by rw [t32 kx]; omega) (by rw [t32 kx]; exact ho) (tgt_eq (hb.2.1 _ (List.mem_of_getElem? hl2)) rfl) (hJ _ (swV_get hT (by omega) hl2) H locs lr hH hZ hl hL h1.2 hk hn)
end OPS2
