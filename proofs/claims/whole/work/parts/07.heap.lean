/-! THE LIGHT MACHINE IS SOUND, 3: fields and arrays -/
theorem sval_c {g : Gl} {S S' : Sx} {h h' : Hp} {t kd : Nat} {a i : Int} (h1 : h' a i = h a i) (h2 : S'.2 t a i = S.2 t a i) : sval g S' h' t kd a i = sval g S h t kd a i := by
  unfold sval
  split <;> simp only [h1, h2]
theorem okr_up {S S' : Sx} {t : Nat} {x : Int} (hS : S.1 ≤ S'.1) (h : okr S t x) : okr S' t x := by
  rcases h with h | ⟨h1, h2, h3⟩
  · exact Or.inl h
  · exact Or.inr ⟨h1, by omega, h3⟩
theorem okv_up {S S' : Sx} {v : LV} (hS : S.1 ≤ S'.1) (h : okv S v) : okv S' v := by
  rcases v with x | x | r
  · exact h
  · exact h
  · exact okr_up hS h
theorem sok_c {S S' : Sx} {h h' : Hp} {t : Nat} {kt : Nat × Nat} {a i : Int} (hS : S.1 ≤ S'.1) (h1 : h' a i = h a i) (h2 : S'.2 t a i = S.2 t a i) (hk : sok S h t kt a i) : sok S' h' t kt a i := by
  unfold sok at hk ⊢
  split at hk <;> simp only [h1, h2] <;> first | exact hk | exact okr_up hS hk
theorem CR.congr {g : Gl} {S S' : Sx} {h h' : Hp} {H H' : Heap} {b : Int} (hS : S.1 ≤ S'.1) (h1 : ∀ i, h' b i = h b i) (h2 : ∀ t i, S'.2 t b i = S.2 t b i) (hq : H'[gR g b]? = H[gR g b]?) (hc : CR g S h H b) : CR g S' h' H' b := by
  unfold CR at hc ⊢
  split at hc
  · rename_i ht
    rw [if_pos ht]
    refine ⟨(hc.1.kept hq).to (fun k _ => (sval_c (h1 _) (h2 _ _)).symm), fun k hk => sok_c hS (h1 _) (h2 _ _) (hc.2 k hk)⟩
  · rename_i ht
    rw [if_neg ht]
    obtain ⟨⟨cell, c1, c2, c3, c4, c5⟩, c6⟩ := hc
    exact ⟨⟨cell, by rw [hq]; exact c1, c2, c3, c4, fun i hi => by rw [c5 i hi, sval_c (h1 _) (h2 _ _)]⟩, fun i hi => sok_c hS (h1 _) (h2 _ _) (c6 i hi)⟩
theorem gR_ne {g : Gl} (hG : GK g) {a b : Int} (ha : 4 ≤ a) (hb : 0 < b) (hne : b ≠ a) : gR g b ≠ gR g a := by
  rw [hG.1 a ha]
  by_cases q : 4 ≤ b
  · rw [hG.1 b q]; omega
  · rcases (show b = 1 ∨ b = 2 ∨ b = 3 by omega) with rfl | rfl | rfl
    · have := hG.2.1; omega
    · have := hG.2.2.1; omega
    · have := hG.2.2.2.1; omega
/-- one cell changes -/
theorem HR.set {g : Gl} (hG : GK g) {S S' : Sx} {h h' : Hp} {H H' : Heap} {a : Int} (hH : HR g S h H) (ha : 4 ≤ a) (hS : S'.1 = S.1) (h1 : ∀ b i, b ≠ a → h' b i = h b i) (h2 : ∀ t b i, b ≠ a → S'.2 t b i = S.2 t b i) (hz : H'.size = H.size) (hq : ∀ q, q ≠ gR g a → H'[q]? = H[q]?) (hc : CR g S' h' H' a) : HR g S' h' H' := by
  refine ⟨by rw [hS]; exact hH.1, by rw [hz, hS]; exact hH.2.1, fun b b0 b1 => ?_⟩
  by_cases e : b = a
  · rw [e]; exact hc
  · exact (hH.2.2 b b0 (by omega)).congr (by omega) (fun i => h1 b i e) (fun t i => h2 t b i e) (hq _ (gR_ne hG ha b0 e))
theorem SZ.set {g : Gl} (hG : GK g) {s : State} {H H' : Heap} {a : Int} (h : SZ g s H) (ha : 4 ≤ a) (hq : ∀ q, q ≠ gR g a → H'[q]? = H[q]?) : SZ g s H' := by
  have key : ∀ q : Nat, q < H.size → ¬ gB g ≤ q → H'[q]? = H[q]? := fun q _ hb => hq q (by rw [hG.1 a ha]; omega)
  exact ⟨h.1.kept key, h.2.kept key⟩
theorem SHn {a : Int} (h0 : 0 < a) (h : (SH a).1 < 20) : 4 ≤ a := by
  by_cases q : 4 ≤ a
  · exact q
  · rcases (show a = 1 ∨ a = 2 ∨ a = 3 by omega) with rfl | rfl | rfl <;> exact absurd h (by decide)
theorem SHn2 {a : Int} (h0 : 0 < a) (h : (SH a).1 ≠ 20) : 4 ≤ a := by
  by_cases q : 4 ≤ a
  · exact q
  · rcases (show a = 1 ∨ a = 2 ∨ a = 3 by omega) with rfl | rfl | rfl <;> exact absurd rfl h
theorem KOk.le {t k : Nat} (h : KOk t k) : (fkt t k).1 ≤ 4 := by
  obtain ⟨-, -, h⟩ := h
  split at h <;> first | omega | exact h.elim
theorem hup_ne {h : Hp} {a b i j v : Int} (hb : b ≠ a) : hup h a i v b j = h b j := by
  unfold hup
  rw [if_neg (fun z => hb z.1)]
theorem hup_nj {h : Hp} {a b i j v : Int} (hj : j ≠ i) : hup h a i v b j = h b j := by
  unfold hup
  rw [if_neg (fun z => hj z.2)]
theorem hup_at {h : Hp} {a i v : Int} : hup h a i v a i = v := by
  unfold hup
  rw [if_pos ⟨rfl, rfl⟩]
theorem sup_ne {r : Nat → Int → Int → Int} {t u : Nat} {a b i j v : Int} (hb : b ≠ a) : sup r t a i v u b j = r u b j := by
  unfold sup
  rw [if_neg (fun z => hb z.2.1)]
theorem sup_nj {r : Nat → Int → Int → Int} {t u : Nat} {a b i j v : Int} (hj : j ≠ i) : sup r t a i v u b j = r u b j := by
  unfold sup
  rw [if_neg (fun z => hj z.2.2)]
theorem sup_at {r : Nat → Int → Int → Int} {t : Nat} {a i v : Int} : sup r t a i v t a i = v := by
  unfold sup
  rw [if_pos ⟨rfl, rfl, rfl⟩]
section HEAP
variable {g : Gl} {own : Nat} {p : Program} {e : Env} {R : Room} {s : State} {m : MethodId} {args : Array Value} {below : List Frame} {meth : Method} {c : Code} {cc : ByteArray} {nL : Nat} {nx0 : Int} {Qe : State → Prop} {pc : Nat} {ls : Lc} {st : List LV} {S : Sx} {h : Hp}
theorem Cx.word (C : Cx g own p s m args c cc nL) {w : Jvm.Cond} (h1 : w ∈ lw_tbl) (h2 : goodWord w = true) : w.before args s = true := C.2.2.2.2.2.1 _ (lwG_mem h1 h2)
theorem u_lay_good (C : String) (T : u_T) (k : Nat) : goodWord (u_lay C T k) = true := by
  unfold u_lay
  split <;> rfl
theorem Cx.lays (C : Cx g own p s m args c cc nL) {t : Nat} (ht : t < 11) : ∀ w ∈ u_ws (cnm t) (fT t) (nf t), w ∈ lwG := fun w hw => by
  obtain ⟨k, hk, rfl⟩ := List.mem_map.mp hw
  exact lwG_mem (in_all ht _ hw) (u_lay_good _ _ _)
theorem zt_get {n : Nat} {q : Nat × Int × Nat × Nat} {k : Lc → List LV → Sx → Hp → Prop} (C : Cx g own p s m args c cc nL) (hf : cpf own n = some q) (hd : decode cc pc = .ok (.getfield n, 3)) (hT : Tget q k ls st S h) (hk : ∀ ls st S h, k ls st S h → LJ g p e R s m args below meth c nL nx0 Qe (pc + 3) ls st S h) : LJ g p e R s m args below meth c nL nx0 Qe pc ls st S h := by
  unfold Tget at hT
  split at hT
  · rename_i r st'
    split at hT
    · rename_i hq
      obtain ⟨hr0, hT⟩ := hT
      obtain ⟨f1, f2, f3, f4, f5⟩ := cpf_ok C.1 hf
      have hr1 : r.1 = q.1 := by simpa using hq
      intro H locs lr hH hZ hl hL hs hkl hn
      have hs' := List.forall_mem_cons.mp hs
      have ho : okr S r.1 r.2 := hs'.1
      rcases ho with ho | ⟨o1, o2, o3⟩
      · exact absurd ho hr0
      have hc := hH.2.2 r.2 o1 o2
      rw [hr1] at o3
      unfold CR at hc
      rw [o3, if_pos (show q.1 < 20 by omega)] at hc
      obtain ⟨⟨cell, c1, c2, c3, c4⟩, c5⟩ := hc
      have hkn := C.2.2.2.2.2.2.2.2.1 q.1 f1
      obtain ⟨hS, hfc, kC, hkC, hkind⟩ := hkn
      obtain ⟨cf, kf, fi, f, hi, hsl⟩ := hS q.2.1.toNat f3
      have e1 : ((q.2.1.toNat : Nat) : Int) = q.2.1 := by omega
      have hko := ko_all f1 f3
      have hlink : (Jvm.Cond.fieldLink (cnm own) n (cnm q.1) (fT q.1 q.2.1.toNat).2.1 (fT q.1 q.2.1.toNat).2.2.1).before args s = true := C.word f5 rfl
      have hi' : s.fieldFound? (cnm q.1) (fT q.1 q.2.1.toNat).2.1 (fT q.1 q.2.1.toNat).2.2.1 = some (cf, kf, fi, f) := by rw [← hko.2.1]; exact hi
      have hst := (u_facts hfc hkC (u_lays C.2.2.2.2.2.1 (C.lays f1) f3) hi).1
      have base : ∀ v : LV, cv g v = sval g S h q.1 (fkt q.1 q.2.1.toNat).1 r.2 q.2.1.toNat → okv S v → LJ g p e R s m args below meth c nL nx0 Qe (pc + 3) ls (v :: st') S h → W p (gL g) e R s m args below meth c H locs (S.1 - nx0).toNat (zz S.1 - zz nx0) Qe (F0 m pc lr ((Sum.inr (Sum.inr r) :: st').map (cv g))) := by
        intro v hv hov X
        have K := X H locs lr hH hZ hl hL (List.forall_mem_cons.mpr ⟨hov, hs'.2⟩) hkl hn
        have hsv : cell.slots[f.slot]? = some (cv g v) := by rw [hsl, c4 _ f3, hv]
        have hstk : (Sum.inr (Sum.inr r) :: st').map (cv g) = .ref (gR g r.2) :: st'.map (cv g) := by
          rw [List.map_cons]
          simp only [cv, rfv]
          rw [if_neg hr0]
        rw [hstk]
        exact W.getf C.2.1 C.2.2.1 C.2.2.2.2.1 hlink hi' hst c1 (by rw [c3]; exact fun z => by cases z) hsv rfl rfl hd K
      have hko3 := c5 _ f3
      rw [f4] at base hko3
      rw [e1] at base hko3
      simp only at hT base hko3
      have hle : q.2.2.1 ≤ 4 := by
        have := KOk.le hko
        rw [f4] at this
        exact this
      generalize q.2.2.1 = kd at hT base hko3 hle
      match kd, hT, base, hko3, hle with
      | 0, hT, base, hko3, _ => exact base (LI (h r.2 q.2.1)) rfl hko3 (hk _ _ _ _ hT)
      | 1, hT, base, hko3, _ => exact base (LI (h r.2 q.2.1)) rfl (by rcases hko3 with z | z <;> (show inI _; rw [z]; exact ⟨by decide, by decide⟩)) (hk _ _ _ _ (hT hko3))
      | 2, hT, base, hko3, _ => exact base (LL (h r.2 q.2.1)) rfl hko3 (hk _ _ _ _ hT)
      | 3, hT, base, hko3, _ => exact base (LR q.2.2.2 (S.2 q.1 r.2 q.2.1)) rfl hko3 (hk _ _ _ _ hT)
      | 4, hT, base, hko3, _ => exact base (LR q.2.2.2 (h r.2 q.2.1)) rfl hko3 (hk _ _ _ _ hT)
    · exact hT.elim
  · exact hT.elim
def vfit (kd : Nat) (v : LV) : Prop := match kd, v with
    | 0, Sum.inl _ => True
    | 1, Sum.inl x => x = 0 ∨ x = 1
    | 2, Sum.inr (Sum.inl _) => True
    | 3, Sum.inr (Sum.inr _) => True
    | 4, Sum.inr (Sum.inr _) => True
    | _, _ => False
theorem narrow_ok {g : Gl} {S : Sx} {v : LV} {t k : Nat} (hko : KOk t k) (hv : okv S v) (hs : vfit (fkt t k).1 v) : narrow (fty t k) (cv g v) = cv g v ∧ fits (fty t k) (cv g v) = true := by
  obtain ⟨-, -, hk⟩ := hko
  have hr : ∀ r : Nat × Int, (∀ C, narrow (.object C) (rfv g r.2) = rfv g r.2 ∧ fits (.object C) (rfv g r.2) = true) ∧ (∀ C, narrow (.array C) (rfv g r.2) = rfv g r.2 ∧ fits (.array C) (rfv g r.2) = true) := by
    intro r
    unfold rfv
    split <;> exact ⟨fun _ => ⟨rfl, rfl⟩, fun _ => ⟨rfl, rfl⟩⟩
  generalize (fkt t k).1 = kd at hk hs
  generalize fty t k = ty at hk ⊢
  match kd, v, hs with
  | 0, Sum.inl x, _ => match ty, hk with
    | .int, _ => exact ⟨rfl, rfl⟩
  | 1, Sum.inl x, hs => match ty, hk with
    | .boolean, _ => rcases hs with rfl | rfl <;> exact ⟨rfl, rfl⟩
  | 2, Sum.inr (Sum.inl x), _ => match ty, hk with
    | .long, _ => exact ⟨rfl, rfl⟩
  | 3, Sum.inr (Sum.inr r), _ => match ty, hk with
    | .object C, _ => exact (hr r).1 C
    | .array C, _ => exact (hr r).2 C
  | 4, Sum.inr (Sum.inr r), _ => match ty, hk with
    | .object C, _ => exact (hr r).1 C
/-- a field that isn't final, or is, in a constructor of its class, takes a value -/
theorem zt_putB {n : Nat} {q : Nat × Int × Nat × Nat} {r : Nat × Int} {v : LV} {S' : Sx} {h' : Hp} {st' : List LV} (C : Cx g own p s m args c cc nL) (hini : (fkt q.1 q.2.1.toNat).1 = 3 → own = q.1 ∧ meth.name = "<init>") (hf : cpf own n = some q) (hd : decode cc pc = .ok (.putfield n, 3)) (hr1 : r.1 = q.1) (hr0 : r.2 ≠ 0)
    (hs0 : vfit (fkt q.1 q.2.1.toNat).1 v)
    (e1 : S'.1 = S.1) (e2 : ∀ b i, b ≠ r.2 → h' b i = h b i) (e3 : ∀ t b i, b ≠ r.2 → S'.2 t b i = S.2 t b i) (e4 : ∀ i, i ≠ q.2.1 → h' r.2 i = h r.2 i) (e5 : ∀ i, i ≠ q.2.1 → S'.2 q.1 r.2 i = S.2 q.1 r.2 i)
    (e6 : sval g S' h' q.1 (fkt q.1 q.2.1.toNat).1 r.2 q.2.1 = cv g v) (e7 : okv S v → sok S' h' q.1 (fkt q.1 q.2.1.toNat) r.2 q.2.1)
    (X : LJ g p e R s m args below meth c nL nx0 Qe (pc + 3) ls st' S' h') : LJ g p e R s m args below meth c nL nx0 Qe pc ls (v :: Sum.inr (Sum.inr r) :: st') S h := by
  obtain ⟨f1, f2, f3, f4, f5⟩ := cpf_ok C.1 hf
  intro H locs lr hH hZ hl hL hs hkl hn
  have hs1 := List.forall_mem_cons.mp hs
  have hs2 := List.forall_mem_cons.mp hs1.2
  have ho : okr S r.1 r.2 := hs2.1
  rcases ho with ho | ⟨o1, o2, o3⟩
  · exact absurd ho hr0
  have hc := hH.2.2 r.2 o1 o2
  rw [hr1] at o3
  unfold CR at hc
  rw [o3, if_pos (show q.1 < 20 by omega)] at hc
  obtain ⟨⟨cell, c1, c2, c3, c4⟩, c5⟩ := hc
  have hkn := C.2.2.2.2.2.2.2.2.1 q.1 f1
  have hkn' := hkn
  obtain ⟨hS, hfc, kC, hkC, hkind⟩ := hkn
  obtain ⟨cf, kf, fi, f, hi, hsl⟩ := hS q.2.1.toNat f3
  have en : ((q.2.1.toNat : Nat) : Int) = q.2.1 := by omega
  have hko := ko_all f1 f3
  have hlink : (Jvm.Cond.fieldLink (cnm own) n (cnm q.1) (fT q.1 q.2.1.toNat).2.1 (fT q.1 q.2.1.toNat).2.2.1).before args s = true := C.word f5 rfl
  have hi' : s.fieldFound? (cnm q.1) (fT q.1 q.2.1.toNat).2.1 (fT q.1 q.2.1.toNat).2.2.1 = some (cf, kf, fi, f) := by rw [← hko.2.1]; exact hi
  have hst := (u_facts hfc hkC (u_lays C.2.2.2.2.2.1 (C.lays f1) f3) hi).1
  have hnf := narrow_ok (g := g) hko hs1.1 hs0
  have h4 : 4 ≤ r.2 := SHn o1 (by rw [o3]; omega)
  have hstk : (v :: Sum.inr (Sum.inr r) :: st').map (cv g) = cv g v :: .ref (gR g r.2) :: st'.map (cv g) := by
    rw [List.map_cons, List.map_cons]
    simp only [cv, rfv]
    rw [if_neg hr0]
  rw [hstk]
  have hap : ∀ x y, x < nf q.1 → y < nf q.1 → x ≠ y → gI g q.1 x ≠ gI g q.1 y := by
    intro x y hx hy hne
    obtain ⟨_, _, _, fa, hia, ea⟩ := hS x hx
    obtain ⟨_, _, _, fb, hib, eb⟩ := hS y hy
    rw [← ea, ← eb]
    refine u_apart (u_lays C.2.2.2.2.2.1 (C.lays f1) hx) (u_lays C.2.2.2.2.2.1 (C.lays f1) hy) hia hib ?_
    rw [(State.fieldFound?_type hia (ko_all f1 hx).1).1, (State.fieldFound?_type hib (ko_all f1 hy).1).1]
    exact nm_all f1 x hx y hy hne
  have hlt : f.slot < cell.slots.size := by rw [hsl]; exact k2_hasslot (c4 _ f3)
  have go : ∀ H' : Heap, H'[gR g r.2]? = some (cell.setSlot f.slot (cv g v)) → H'.size = H.size → (∀ x, x ≠ gR g r.2 → H'[x]? = H[x]?) → W p (gL g) e R s m args below meth c H' (locs ++ [⟨gR g r.2, f.slot⟩]) (S.1 - nx0).toNat (zz S.1 - zz nx0) Qe (F0 m (pc + 3) lr (st'.map (cv g))) := by
    intro H' d1 d2 d3
    have hcr : CR g S' h' H' r.2 := by
      unfold CR
      rw [o3, if_pos (show q.1 < 20 by omega)]
      refine ⟨⟨_, d1, c2, c3, fun j hj => ?_⟩, fun j hj => ?_⟩
      · have := t_set c4 hap f3 (cv g v) j hj
        rw [hsl, this]
        unfold updV
        by_cases z : j = q.2.1.toNat
        · rw [if_pos z, z]
          show _ = some (sval g S' h' q.1 (fkt q.1 q.2.1.toNat).1 r.2 ((q.2.1.toNat : Nat) : Int))
          rw [en, e6]
        · have zj : (j : Int) ≠ q.2.1 := by omega
          rw [if_neg z]
          exact congrArg some (sval_c (e4 _ zj) (e5 _ zj)).symm
      · by_cases z : j = q.2.1.toNat
        · rw [z, en]; exact e7 hs1.1
        · have zj : (j : Int) ≠ q.2.1 := by omega
          exact sok_c (by omega) (e4 _ zj) (e5 _ zj) (c5 j hj)
    have K := X H' (locs ++ [⟨gR g r.2, f.slot⟩]) lr (hH.set C.2.2.2.2.2.2.1 h4 e1 e2 e3 d2 d3 hcr) (hZ.set C.2.2.2.2.2.2.1 h4 d3) (fun x hx => by
      rcases List.mem_append.mp hx with z | z
      · exact hl x z
      · rw [List.mem_singleton.mp z]
        show gB g ≤ gR g r.2
        rw [C.2.2.2.2.2.2.1.1 _ h4]
        omega) hL (fun x hx => okv_up (by omega) (hs2.2 x hx)) (fun i x hx => okv_up (by omega) (hkl i x hx)) (by omega)
    rw [e1] at K
    exact K
  by_cases k3 : (fkt q.1 q.2.1.toNat).1 = 3
  · obtain ⟨i1, i2⟩ := hini k3
    have hfin : (fT q.1 q.2.1.toNat).2.2.2 = true := by
      have h3 := hko.2.2
      rw [k3] at h3
      split at h3 <;> first | exact h3 | exact h3.elim | (rename_i z _; cases z)
    have hlay := C.2.2.2.2.2.1 _ (C.lays f1 _ (u_in_lay f3))
    unfold u_lay at hlay
    rw [if_pos hfin] at hlay
    have hcf : m.cls = cf := by
      obtain ⟨_, _, c', _, _, _, w1, w2, hf', w3, w4, w5, hown2, w6⟩ := Cond.laysFinal_spec hlay
      have z1 : c' = cf := by have := hi.symm.trans hf'; simp at this; exact this.1.symm
      have z2 := C.2.2.2.2.1
      rw [i1] at z2
      rw [hko.2.1] at hown2
      rw [← z1]; exact Option.some.inj (z2.symm.trans hown2)
    exact W.putFinK C.2.1 C.2.2.1 C.2.2.2.2.1 hlink hi' hst hcf i2 (by rw [c2]; exact u_fits hfc hkC hkind (u_lays C.2.2.2.2.2.1 (C.lays f1) f3) hi hko.1 hnf.1 hnf.2) c1 c3 hlt rfl rfl hd go
  · have hfin : (fT q.1 q.2.1.toNat).2.2.2 = false := by
      have h3 := hko.2.2
      split at h3 <;> first | exact h3 | (rename_i z _; exact absurd z k3) | exact h3.elim
    have hlay := C.2.2.2.2.2.1 _ (C.lays f1 _ (u_in_lay f3))
    unfold u_lay at hlay
    rw [if_neg (by rw [hfin]; decide)] at hlay
    exact W.putK C.2.1 C.2.2.1 ⟨C.2.2.2.2.1, hlink, ⟨_, _, _, hi'⟩, hst⟩ (by rw [c2]; exact u_store hfc hkC hkind hlay hi hko.1 hnf.1 hnf.2) c1 c3 hlt rfl rfl hd go
end HEAP
