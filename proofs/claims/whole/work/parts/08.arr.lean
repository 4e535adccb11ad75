/-! THE LIGHT MACHINE IS SOUND, 4: putfield, arrays, new -/
section ARR
variable {g : Gl} {own : Nat} {p : Program} {e : Env} {R : Room} {s : State} {m : MethodId} {args : Array Value} {below : List Frame} {meth : Method} {c : Code} {cc : ByteArray} {nL : Nat} {nx0 : Int} {Qe : State → Prop} {pc : Nat} {ls : Lc} {st : List LV} {S : Sx} {h : Hp}
theorem zt_put {ini : Bool} {n : Nat} {q : Nat × Int × Nat × Nat} {k : Lc → List LV → Sx → Hp → Prop} (C : Cx g own p s m args c cc nL) (hini : ini = true → meth.name = "<init>") (hf : cpf own n = some q) (hd : decode cc pc = .ok (.putfield n, 3)) (hT : Tput own ini q k ls st S h) (hk : ∀ ls st S h, k ls st S h → LJ g p e R s m args below meth c nL nx0 Qe (pc + 3) ls st S h) : LJ g p e R s m args below meth c nL nx0 Qe pc ls st S h := by
  unfold Tput at hT
  split at hT
  · rename_i v r st'
    split at hT
    · rename_i hq
      obtain ⟨hr0, hT⟩ := hT
      have hr1 : r.1 = q.1 := by simpa using hq
      obtain ⟨f1, f2, f3, f4, f5⟩ := cpf_ok C.1 hf
      have f41 : (fkt q.1 q.2.1.toNat).1 = q.2.2.1 := by rw [f4]
      have f42 : (fkt q.1 q.2.1.toNat).2 = q.2.2.2 := by rw [f4]
      split at hT
      · rename_i x hkd
        refine zt_putB C (fun z => absurd z (by rw [f41, hkd]; decide)) hf hd hr1 hr0 (by rw [f41, hkd]; trivial) rfl (fun b i hb => hup_ne hb) (fun _ _ _ _ => rfl) (fun i hi => hup_nj hi) (fun _ _ => rfl) ?_ ?_ (hk _ _ _ _ hT)
        · rw [f41, hkd]; simp only [sval, cv, hup_at]
        · intro z; unfold sok; rw [f41, hkd]; simp only [hup_at]; exact z
      · rename_i x hkd
        refine zt_putB C (fun z => absurd z (by rw [f41, hkd]; decide)) hf hd hr1 hr0 (by rw [f41, hkd]; exact hT.1) rfl (fun b i hb => hup_ne hb) (fun _ _ _ _ => rfl) (fun i hi => hup_nj hi) (fun _ _ => rfl) ?_ ?_ (hk _ _ _ _ hT.2)
        · rw [f41, hkd]; simp only [sval, cv, hup_at]
        · intro z; unfold sok; rw [f41, hkd]; simp only [hup_at]; exact hT.1
      · rename_i x hkd
        refine zt_putB C (fun z => absurd z (by rw [f41, hkd]; decide)) hf hd hr1 hr0 (by rw [f41, hkd]; trivial) rfl (fun b i hb => hup_ne hb) (fun _ _ _ _ => rfl) (fun i hi => hup_nj hi) (fun _ _ => rfl) ?_ ?_ (hk _ _ _ _ hT)
        · rw [f41, hkd]; simp only [sval, cv, hup_at]
        · intro z; unfold sok; rw [f41, hkd]; simp only [hup_at]; exact z
      · rename_i x hkd
        split at hT
        · rename_i hb
          simp only [Bool.and_eq_true, beq_iff_eq] at hb
          refine zt_putB (S' := (S.1, sup S.2 q.1 r.2 q.2.1 x.2)) (h' := h) C (fun _ => ⟨hb.1.2, hini hb.1.1⟩) hf hd hr1 hr0 (by rw [f41, hkd]; trivial) rfl (fun _ _ _ => rfl) (fun t b i hb => sup_ne hb) (fun _ _ => rfl) (fun i hi => sup_nj hi) ?_ ?_ (hk _ _ _ _ hT)
          · rw [f41, hkd]; simp only [sval, cv, sup_at]
          · intro z; unfold sok; rw [f41, f42, hkd]; simp only [sup_at]; rw [← hb.2]; exact z
        · exact hT.elim
      · rename_i x hkd
        split at hT
        · rename_i hb
          have hb : x.1 = q.2.2.2 := by simpa using hb
          refine zt_putB C (fun z => absurd z (by rw [f41, hkd]; decide)) hf hd hr1 hr0 (by rw [f41, hkd]; trivial) rfl (fun b i hb => hup_ne hb) (fun _ _ _ _ => rfl) (fun i hi => hup_nj hi) (fun _ _ => rfl) ?_ ?_ (hk _ _ _ _ hT)
          · rw [f41, hkd]; simp only [sval, cv, hup_at]
          · intro z; unfold sok; rw [f41, f42, hkd]; simp only [hup_at]; rw [← hb]; exact z
        · refine zt_putB C (fun z => absurd z (by rw [f41, hkd]; decide)) hf hd hr1 hr0 (by rw [f41, hkd]; trivial) rfl (fun b i hb => hup_ne hb) (fun _ _ _ _ => rfl) (fun i hi => hup_nj hi) (fun _ _ => rfl) ?_ ?_ (hk _ _ _ _ hT.2)
          · rw [f41, hkd]; simp only [sval, cv, hup_at, hT.1]
          · intro z; unfold sok; rw [f41, f42, hkd]; simp only [hup_at]; exact Or.inl rfl
      · exact hT.elim
    · exact hT.elim
  · exact hT.elim
theorem bnd32L {x n : Int} {N : Nat} (h : inI x) (h0 : 0 ≤ x) (h1 : x < n) (hN : n.toNat ≤ N) : ¬ (Int32.ofInt x < 0 ∨ N ≤ (Int32.ofInt x).toNatClampNeg) := by
  rw [nn32 h]
  rintro (q | q)
  · have := (lt32 h inI_0).mp q
    omega
  · omega
/-- an array's cell -/
theorem CR.arr {a : Int} {H : Heap} (C : Cx g own p s m args c cc nL) (hH : HR g S h H) {t : Nat} (ht : 20 ≤ t) (ht2 : t < 25) (h0 : a ≠ 0) (ho : okr S t a) : ∃ cell : Cell, H[gR g a]? = some cell ∧ s.isArrayOf cell (aty t) ∧ cell.cls = gK g a ∧ AV cell.vm a ∧ AZ cell.slots.size (lnn g a) a ∧ (∀ i : Nat, i < (lnn g a).toNat → cell.slots[i]? = some (sval g S h t (akd t).1 a i)) ∧ (∀ i : Nat, i < (lnn g a).toNat → sok S h t (akd t) a i) ∧ (0 < a ∧ a < S.1 ∧ (SH a).1 = t) := by
  rcases ho with ho | ⟨o1, o2, o3⟩
  · exact absurd ho h0
  have hc := hH.2.2 a o1 o2
  unfold CR at hc
  rw [o3, if_neg (by omega)] at hc
  obtain ⟨⟨cell, c1, c2, c3, c4, c5⟩, c6⟩ := hc
  refine ⟨cell, c1, ⟨c3.2.1, ?_⟩, c2, c3, c4, c5, c6, o1, o2, o3⟩
  rw [c2]
  by_cases a4 : a < 4
  · have e20 : t = 20 := by
      rw [← o3]
      rcases (show a = 1 ∨ a = 2 ∨ a = 3 by omega) with rfl | rfl | rfl <;> rfl
    subst e20
    unfold gK
    rw [if_pos a4]
    exact ((C.2.2.2.2.2.2.2.2.2.2 a.toNat (by omega) (by omega)) 0 (fun _ => .null)).2
  · rw [gK_4 (by omega), o3]
    exact ((C.2.2.2.2.2.2.2.2.2.1 t ht ht2).1 0 (fun _ => .null)).2
theorem stk_ref {r : Nat × Int} (h0 : r.2 ≠ 0) : cv g (Sum.inr (Sum.inr r)) = .ref (gR g r.2) := by
  simp only [cv, rfv]
  rw [if_neg h0]
theorem zt_ald {i : Instr} {t : Nat} {k : LV → Prop} {q : Nat × Int} {x : Int} (C : Cx g own p s m args c cc nL) (hi : (i = .iaload ∧ t = 20) ∨ (i = .laload ∧ t = 21) ∨ (i = .baload ∧ t = 22) ∨ (i = .baload ∧ t = 23) ∨ (i = .aaload ∧ t = 24)) (hd : decode cc pc = .ok (i, 1)) (hT : Tald g t k S h q x) (hk : ∀ v, k v → LJ g p e R s m args below meth c nL nx0 Qe (pc + 1) ls (v :: st) S h) : LJ g p e R s m args below meth c nL nx0 Qe pc ls (Sum.inl x :: Sum.inr (Sum.inr q) :: st) S h := by
  unfold Tald at hT
  split at hT
  · rename_i hq
    have hq : q.1 = t := by simpa using hq
    obtain ⟨h0, x0, x1, hT⟩ := hT
    intro H locs lr hH hZ hl hL hs hkl hn
    have hs1 := List.forall_mem_cons.mp hs
    have hs2 := List.forall_mem_cons.mp hs1.2
    have kx : inI x := hs1.1
    have ho : okr S q.1 q.2 := hs2.1
    rw [hq] at ho
    obtain ⟨cell, c1, ca, c2, c3, c4, c5, c6, -⟩ := CR.arr C hH (by omega) (by omega) h0 ho
    have hb := bnd32L (N := cell.slots.size) kx x0 x1 c4.1
    have hv : cell.slots[(Int32.ofInt x).toNatClampNeg]? = some (sval g S h t (akd t).1 q.2 x) := by
      rw [nn32 kx, c5 _ (by omega)]
      congr 2
      omega
    have hk6 := c6 x.toNat (by omega)
    rw [show ((x.toNat : Nat) : Int) = x by omega] at hk6
    have hunk : cell.vm ≠ .unknown := c3.1
    have go : ∀ v, okv S v → k v → W p (gL g) e R s m args below meth c H locs (S.1 - nx0).toNat (zz S.1 - zz nx0) Qe (F0 m (pc + 1) lr (cv g v :: st.map (cv g))) := fun v h1 h2 => hk v h2 H locs lr hH hZ hl hL (List.forall_mem_cons.mpr ⟨h1, hs2.2⟩) hkl hn
    rw [List.map_cons, List.map_cons, stk_ref h0]
    rcases hi with ⟨rfl, rfl⟩ | ⟨rfl, rfl⟩ | ⟨rfl, rfl⟩ | ⟨rfl, rfl⟩ | ⟨rfl, rfl⟩
    · exact W.iald C.2.1 C.2.2.1 c1 ca hunk hb hv rfl rfl hd (go (LI (h q.2 x)) hk6 hT)
    · exact W.lald C.2.1 C.2.2.1 c1 ca hunk hb hv rfl rfl hd (go (LL (h q.2 x)) hk6 hT)
    · exact W.zald C.2.1 C.2.2.1 c1 ca hunk hb hv rfl rfl hd (go (LI (h q.2 x)) (by rcases hk6 with z | z <;> (show inI _; rw [z]; exact ⟨by decide, by decide⟩)) (hT hk6))
    · exact W.bald C.2.1 C.2.2.1 c1 ca hunk hb hv rfl rfl hd (go (LI (h q.2 x)) ⟨by have := hk6.1; omega, by have := hk6.2; omega⟩ hT)
    · exact W.aald C.2.1 C.2.2.1 c1 ca rfl hunk hb hv rfl rfl hd (go (LR 6 (S.2 24 q.2 x)) hk6 hT)
  · exact hT.elim
theorem zt_alen {q : Nat × Int} (C : Cx g own p s m args c cc nL) (hq : 20 ≤ q.1) (hq2 : q.1 < 25) (h0 : q.2 ≠ 0) (hln : inI (lnn g q.2) ∧ 0 ≤ lnn g q.2) (hd : decode cc pc = .ok (.arraylength, 1)) (X : LJ g p e R s m args below meth c nL nx0 Qe (pc + 1) ls (Sum.inl (lnn g q.2) :: st) S h) : LJ g p e R s m args below meth c nL nx0 Qe pc ls (Sum.inr (Sum.inr q) :: st) S h := by
  intro H locs lr hH hZ hl hL hs hkl hn
  have hs1 := List.forall_mem_cons.mp hs
  obtain ⟨cell, c1, ca, c2, c3, c4, c5, c6, -⟩ := CR.arr C hH hq hq2 h0 hs1.1
  rw [List.map_cons, stk_ref h0]
  exact W.alen C.2.1 C.2.2.1 c1 ca (n := Int32.ofInt (lnn g q.2)) c4.2.1 rfl rfl hd (X H locs lr hH hZ hl hL (List.forall_mem_cons.mpr ⟨hln.1, hs1.2⟩) hkl hn)
/-- storing into an array: what the light heap becomes -/
theorem zt_astB {t : Nat} {q : Nat × Int} {x : Int} {v : Value} {S' : Sx} {h' : Hp} {H : Heap} {locs : List Loc} {lr : Array Slot} {st' : List LV} {cell : Cell} (C : Cx g own p s m args c cc nL) (hH : HR g S h H) (hZ : SZ g s H) (hl : ∀ q ∈ locs, gB g ≤ q.base) (hL : LcR g nL ls lr) (hs : ∀ v ∈ st', okv S v) (hkl : okl S ls) (hn : nx0 ≤ S.1)
    (ht : 20 ≤ t) (ht2 : t < 25) (o : 0 < q.2 ∧ q.2 < S.1 ∧ (SH q.2).1 = t) (o4 : 4 ≤ q.2) (kx : inI x) (x0 : 0 ≤ x) (x1 : x < lnn g q.2)
    (c2 : cell.cls = gK g q.2) (c3 : AV cell.vm q.2) (c4 : cell.slots.size = (lnn g q.2).toNat) (c5 : ∀ i : Nat, i < (lnn g q.2).toNat → cell.slots[i]? = some (sval g S h t (akd t).1 q.2 i)) (c6 : ∀ i : Nat, i < (lnn g q.2).toNat → sok S h t (akd t) q.2 i)
    (e1 : S'.1 = S.1) (e2 : ∀ b i, b ≠ q.2 → h' b i = h b i) (e3 : ∀ t b i, b ≠ q.2 → S'.2 t b i = S.2 t b i) (e4 : ∀ i, i ≠ x → h' q.2 i = h q.2 i) (e5 : ∀ i, i ≠ x → S'.2 t q.2 i = S.2 t q.2 i)
    (e6 : sval g S' h' t (akd t).1 q.2 x = v) (e7 : sok S' h' t (akd t) q.2 x)
    (X : LJ g p e R s m args below meth c nL nx0 Qe (pc + 1) ls st' S' h') :
    ∀ H' : Heap, H'[gR g q.2]? = some (cell.setSlot (Int32.ofInt x).toNatClampNeg v) → H'.size = H.size → (∀ y, y ≠ gR g q.2 → H'[y]? = H[y]?) → W p (gL g) e R s m args below meth c H' (locs ++ [⟨gR g q.2, (Int32.ofInt x).toNatClampNeg⟩]) (S.1 - nx0).toNat (zz S.1 - zz nx0) Qe (F0 m (pc + 1) lr (st'.map (cv g))) := by
  intro H' d1 d2 d3
  have hcr : CR g S' h' H' q.2 := by
    unfold CR
    rw [o.2.2, if_neg (by omega)]
    refine ⟨⟨_, d1, c2, c3, AZ.of (by simp [Cell.setSlot, c4]) (by omega), fun j hj => ?_⟩, fun j hj => ?_⟩
    · simp only [Cell.setSlot, nn32 kx, Array.getElem?_setIfInBounds]
      by_cases z : x.toNat = j
      · rw [if_pos z, if_pos (by omega), ← z, show ((x.toNat : Nat) : Int) = x by omega, e6]
      · have zj : (j : Int) ≠ x := by omega
        rw [if_neg z, c5 j hj, sval_c (e4 _ zj) (e5 _ zj)]
    · by_cases z : x.toNat = j
      · rw [← z, show ((x.toNat : Nat) : Int) = x by omega]; exact e7
      · have zj : (j : Int) ≠ x := by omega
        exact sok_c (by omega) (e4 _ zj) (e5 _ zj) (c6 j hj)
  have K := X H' (locs ++ [⟨gR g q.2, (Int32.ofInt x).toNatClampNeg⟩]) lr (hH.set C.2.2.2.2.2.2.1 o4 e1 e2 e3 d2 d3 hcr) (hZ.set C.2.2.2.2.2.2.1 o4 d3) (fun y hy => by
      rcases List.mem_append.mp hy with z | z
      · exact hl y z
      · rw [List.mem_singleton.mp z]
        show gB g ≤ gR g q.2
        rw [C.2.2.2.2.2.2.1.1 _ o4]
        omega) hL (fun y hy => okv_up (by omega) (hs y hy)) (fun i y hy => okv_up (by omega) (hkl i y hy)) (by omega)
  rw [e1] at K
  exact K
theorem zt_iast {q : Nat × Int} {x v : Int} (C : Cx g own p s m args c cc nL) (hq : q.1 = 20) (h4 : 4 ≤ q.2) (x0 : 0 ≤ x) (x1 : x < lnn g q.2) (hd : decode cc pc = .ok (.iastore, 1)) (X : LJ g p e R s m args below meth c nL nx0 Qe (pc + 1) ls st S (hup h q.2 x v)) : LJ g p e R s m args below meth c nL nx0 Qe pc ls (Sum.inl v :: Sum.inl x :: Sum.inr (Sum.inr q) :: st) S h := by
  intro H locs lr hH hZ hl hL hs hkl hn
  have s1 := List.forall_mem_cons.mp hs
  have s2 := List.forall_mem_cons.mp s1.2
  have s3 := List.forall_mem_cons.mp s2.2
  have h0 : q.2 ≠ 0 := by omega
  have ho : okr S q.1 q.2 := s3.1
  rw [hq] at ho
  obtain ⟨cell, c1, ca, c2, c3, c4, c5, c6, o⟩ := CR.arr C hH (by omega) (by omega) h0 ho
  rw [List.map_cons, List.map_cons, List.map_cons, stk_ref h0]
  exact W.iast C.2.1 C.2.2.1 c1 ca c3.1 (bnd32 s2.1 x0 x1 (c4.2.2 h4)) rfl rfl hd (zt_astB C hH hZ hl hL s3.2 hkl hn (by omega) (by omega) o h4 s2.1 x0 x1 c2 c3 (c4.2.2 h4) c5 c6 rfl (fun b i hb => hup_ne hb) (fun _ _ _ _ => rfl) (fun i hi => hup_nj hi) (fun _ _ => rfl) (by simp only [akd, sval, hup_at]) (by simp only [akd, sok, hup_at]; exact s1.1) X)
theorem zt_last {q : Nat × Int} {x v : Int} (C : Cx g own p s m args c cc nL) (hq : q.1 = 21) (h0 : q.2 ≠ 0) (x0 : 0 ≤ x) (x1 : x < lnn g q.2) (hd : decode cc pc = .ok (.lastore, 1)) (X : LJ g p e R s m args below meth c nL nx0 Qe (pc + 1) ls st S (hup h q.2 x v)) : LJ g p e R s m args below meth c nL nx0 Qe pc ls (Sum.inr (Sum.inl v) :: Sum.inl x :: Sum.inr (Sum.inr q) :: st) S h := by
  intro H locs lr hH hZ hl hL hs hkl hn
  have s1 := List.forall_mem_cons.mp hs
  have s2 := List.forall_mem_cons.mp s1.2
  have s3 := List.forall_mem_cons.mp s2.2
  have ho : okr S q.1 q.2 := s3.1
  rw [hq] at ho
  obtain ⟨cell, c1, ca, c2, c3, c4, c5, c6, o⟩ := CR.arr C hH (by omega) (by omega) h0 ho
  have h4 : 4 ≤ q.2 := SHn2 o.1 (by rw [o.2.2]; decide)
  rw [List.map_cons, List.map_cons, List.map_cons, stk_ref h0]
  exact W.last C.2.1 C.2.2.1 c1 ca c3.1 (bnd32 s2.1 x0 x1 (c4.2.2 h4)) rfl rfl hd (zt_astB C hH hZ hl hL s3.2 hkl hn (by omega) (by omega) o h4 s2.1 x0 x1 c2 c3 (c4.2.2 h4) c5 c6 rfl (fun b i hb => hup_ne hb) (fun _ _ _ _ => rfl) (fun i hi => hup_nj hi) (fun _ _ => rfl) (by simp only [akd, sval, hup_at]) (by simp only [akd, sok, hup_at]; exact s1.1) X)
theorem zt_zast {q : Nat × Int} {x v : Int} (C : Cx g own p s m args c cc nL) (hq : q.1 = 22) (h0 : q.2 ≠ 0) (x0 : 0 ≤ x) (x1 : x < lnn g q.2) (hv : v = 0 ∨ v = 1) (hd : decode cc pc = .ok (.bastore, 1)) (X : LJ g p e R s m args below meth c nL nx0 Qe (pc + 1) ls st S (hup h q.2 x v)) : LJ g p e R s m args below meth c nL nx0 Qe pc ls (Sum.inl v :: Sum.inl x :: Sum.inr (Sum.inr q) :: st) S h := by
  intro H locs lr hH hZ hl hL hs hkl hn
  have s1 := List.forall_mem_cons.mp hs
  have s2 := List.forall_mem_cons.mp s1.2
  have s3 := List.forall_mem_cons.mp s2.2
  have ho : okr S q.1 q.2 := s3.1
  rw [hq] at ho
  obtain ⟨cell, c1, ca, c2, c3, c4, c5, c6, o⟩ := CR.arr C hH (by omega) (by omega) h0 ho
  have h4 : 4 ≤ q.2 := SHn2 o.1 (by rw [o.2.2]; decide)
  have hnw : narrow .boolean (.int (Int32.ofInt v)) = .int (Int32.ofInt v) := by rcases hv with rfl | rfl <;> rfl
  rw [List.map_cons, List.map_cons, List.map_cons, stk_ref h0]
  refine W.zast C.2.1 C.2.2.1 c1 ca c3.1 (bnd32 s2.1 x0 x1 (c4.2.2 h4)) rfl rfl hd ?_
  rw [hnw]
  exact zt_astB C hH hZ hl hL s3.2 hkl hn (by omega) (by omega) o h4 s2.1 x0 x1 c2 c3 (c4.2.2 h4) c5 c6 rfl (fun b i hb => hup_ne hb) (fun _ _ _ _ => rfl) (fun i hi => hup_nj hi) (fun _ _ => rfl) (by simp only [akd, sval, hup_at]) (by simp only [akd, sok, hup_at]; exact hv) X
theorem zt_bast {q : Nat × Int} {x v : Int} (C : Cx g own p s m args c cc nL) (hq : q.1 = 23) (h0 : q.2 ≠ 0) (x0 : 0 ≤ x) (x1 : x < lnn g q.2) (hv : -128 ≤ v ∧ v < 128) (hd : decode cc pc = .ok (.bastore, 1)) (X : LJ g p e R s m args below meth c nL nx0 Qe (pc + 1) ls st S (hup h q.2 x v)) : LJ g p e R s m args below meth c nL nx0 Qe pc ls (Sum.inl v :: Sum.inl x :: Sum.inr (Sum.inr q) :: st) S h := by
  intro H locs lr hH hZ hl hL hs hkl hn
  have s1 := List.forall_mem_cons.mp hs
  have s2 := List.forall_mem_cons.mp s1.2
  have s3 := List.forall_mem_cons.mp s2.2
  have ho : okr S q.1 q.2 := s3.1
  rw [hq] at ho
  obtain ⟨cell, c1, ca, c2, c3, c4, c5, c6, o⟩ := CR.arr C hH (by omega) (by omega) h0 ho
  have h4 : 4 ≤ q.2 := SHn2 o.1 (by rw [o.2.2]; decide)
  have hnw : narrow .byte (.int (Int32.ofInt v)) = .int (Int32.ofInt v) := by
    show Value.int (Int32.ofInt v).toInt8.toInt32 = _
    congr 1
    rw [← Int32.toInt_inj, Int8.toInt_toInt32, Int32.toInt8_ofInt, Int8.toInt_ofInt_of_le hv.1 hv.2, t32 s1.1]
  rw [List.map_cons, List.map_cons, List.map_cons, stk_ref h0]
  refine W.bast C.2.1 C.2.2.1 c1 ca c3.1 (bnd32 s2.1 x0 x1 (c4.2.2 h4)) rfl rfl hd ?_
  rw [hnw]
  exact zt_astB C hH hZ hl hL s3.2 hkl hn (by omega) (by omega) o h4 s2.1 x0 x1 c2 c3 (c4.2.2 h4) c5 c6 rfl (fun b i hb => hup_ne hb) (fun _ _ _ _ => rfl) (fun i hi => hup_nj hi) (fun _ _ => rfl) (by simp only [akd, sval, hup_at]) (by simp only [akd, sok, hup_at]; exact hv) X
theorem zt_aast {q r : Nat × Int} {x : Int} (C : Cx g own p s m args c cc nL) (hq : q.1 = 24) (hr : r.1 = 6) (h0 : q.2 ≠ 0) (r0 : r.2 ≠ 0) (x0 : 0 ≤ x) (x1 : x < lnn g q.2) (hd : decode cc pc = .ok (.aastore, 1)) (X : LJ g p e R s m args below meth c nL nx0 Qe (pc + 1) ls st (S.1, sup S.2 24 q.2 x r.2) h) : LJ g p e R s m args below meth c nL nx0 Qe pc ls (Sum.inr (Sum.inr r) :: Sum.inl x :: Sum.inr (Sum.inr q) :: st) S h := by
  intro H locs lr hH hZ hl hL hs hkl hn
  have s1 := List.forall_mem_cons.mp hs
  have s2 := List.forall_mem_cons.mp s1.2
  have s3 := List.forall_mem_cons.mp s2.2
  have ho : okr S q.1 q.2 := s3.1
  have hor : okr S r.1 r.2 := s1.1
  rw [hq] at ho
  rw [hr] at hor
  obtain ⟨cell, c1, ca, c2, c3, c4, c5, c6, o⟩ := CR.arr C hH (by omega) (by omega) h0 ho
  have h4 : 4 ≤ q.2 := SHn2 o.1 (by rw [o.2.2]; decide)
  obtain ⟨kA, comp, k1, k2, k3, k4⟩ := (C.2.2.2.2.2.2.2.2.2.1 24 (by omega) (by omega)).2
  obtain ⟨-, hfc, kC, hkC, hkind⟩ := C.2.2.2.2.2.2.2.2.1 6 (by omega)
  have e6 : comp = gC g 6 := Option.some.inj (k3.symm.trans hfc)
  subst e6
  rcases hor with hor' | ⟨o1, o2, o3⟩
  · exact absurd hor' r0
  have hcr := hH.2.2 r.2 o1 o2
  unfold CR at hcr
  rw [o3, if_pos (by decide)] at hcr
  obtain ⟨⟨cv', v1, v2, v3, -⟩, -⟩ := hcr
  have x2 : x.toNat < cell.slots.size := by rw [c4.2.2 h4]; omega
  rw [List.map_cons, List.map_cons, List.map_cons, stk_ref h0, stk_ref r0]
  refine W.aast C.2.1 C.2.2.1 (cell := cell) (cv := cv') (k := kA) (kv := kC) (kcomp := kC) (comp := gC g 6) c1 c3.2.1 c3.1 (by rw [c2, gK_4 h4, o.2.2]; exact k1) k2 rfl hkC ⟨fun z => by have := (lt32 s2.1 inI_0).mp z; omega, by rw [nn32 s2.1]; exact x2⟩ v1 (fun z => by rw [v3]; exact fun y => by cases y) (by rw [v2]; exact hkC) (by rw [v2]; exact va_asg _ _) rfl rfl hd ?_
  exact zt_astB (S' := (S.1, sup S.2 24 q.2 x r.2)) (h' := h) C hH hZ hl hL s3.2 hkl hn (by omega) (by omega) o h4 s2.1 x0 x1 c2 c3 (c4.2.2 h4) c5 c6 rfl (fun _ _ _ => rfl) (fun t b i hb => sup_ne hb) (fun _ _ => rfl) (fun i hi => sup_nj hi) (by simp only [akd, sval, sup_at, rfv]; rw [if_neg r0]) (by simp only [akd, sok, sup_at]; exact Or.inr ⟨o1, o2, o3⟩) X
end ARR
