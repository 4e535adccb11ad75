/-! THE LIGHT MACHINE IS SOUND, 6: calls and returns -/
theorem NK.warm {s U : State} (hW : s.WarmedH U.vm) (h : NK s) : NK U := ⟨va_Nw.warmM hW h.1, va_Nw.warmM hW h.2.1, va_Nw.warmM hW h.2.2.1, h.2.2.2.moved hW.alike⟩
theorem KN.warm {g : Gl} {s U : State} (hW : s.WarmedH U.vm) (h : KN g s) : KN g U := ⟨h.1.warm hW, fun t ht => u_Kn_moved hW.alike (h.2.1 t ht), fun t h1 h2 => ⟨arrOfT_moved hW.alike (h.2.2.1 t h1 h2).1, (h.2.2.1 t h1 h2).2.moved hW.alike⟩, fun j h1 h2 => arrOfT_moved hW.alike (h.2.2.2 j h1 h2)⟩
theorem SZ.moved {g : Gl} {s U : State} {H : Heap} (hW : s.vm.Alike U.vm) (h : SZ g s H) : SZ g U H := ⟨h.1.moved hW, h.2.moved hW⟩
theorem KN.same {g : Gl} {s U : State} (hv : s.vm = U.vm) (h : KN g s) : KN g U := by
  have ha : s.vm.Alike U.vm := by rw [hv]; exact Vm.Alike.refl _
  exact ⟨⟨va_Nw.same rfl hv h.1.1, va_Nw.same rfl hv h.1.2.1, va_Nw.same rfl hv h.1.2.2.1, h.1.2.2.2.moved ha⟩, fun t ht => u_Kn_moved ha (h.2.1 t ht), fun t h1 h2 => ⟨arrOfT_moved ha (h.2.2.1 t h1 h2).1, (h.2.2.1 t h1 h2).2.moved ha⟩, fun j h1 h2 => arrOfT_moved ha (h.2.2.2 j h1 h2)⟩
theorem PcO.blind {g : Gl} {as : List LV} {S : Sx} {h : Hp} : FrameBlind (PcO g as S h) := fun _ U _ _ q => ⟨q.1, q.2.1, q.2.2.1.same (s := U) rfl, q.2.2.2.moved (s := U) (Vm.Alike.refl U.vm)⟩
theorem goodIn_O {mi : MI} (h : Jvm.Cond.code mi.1 mi.2.1 mi.2.2.1 mi.2.2.2 ∈ lw_tbl) : GoodIn lwG (wsO mi) := by
  intro w hw
  have hm : w ∈ lwG := by
    rcases List.mem_cons.mp hw with rfl | z
    · exact lwG_mem h rfl
    · exact z
  exact ⟨hm, good_of_word (List.mem_filter.mp hm).2⟩
section CALL
variable {g : Gl} {own : Nat} {p : Program} {e : Env} {R : Room} {s : State} {m : MethodId} {args : Array Value} {below : List Frame} {meth : Method} {c : Code} {cc : ByteArray} {nL : Nat} {nx0 nx1 : Int} {Qe : State → Prop} {pc d : Nat} {ls : Lc} {st : List LV} {S : Sx} {h : Hp}
/-- behind a call: the answer and the new heap -/
theorem zt_back {H : Heap} {locs : List Loc} {lr : Array Slot} {st0 : List Value} {mi : MI} {rest : List LV} {S' : Sx} {Q : LV → Hp → Prop} {a : Array Value} (C : Cx g own p s m args c cc nL) (hl : ∀ q ∈ locs, gB g ≤ q.base) (hL : LcR g nL ls lr) (hrest : ∀ v ∈ rest, okv S v) (hkl : okl S ls) (hn : nx0 ≤ S.1) (hS : S.1 ≤ S'.1)
    (hr : va_Run p (gL g) e R s m args below meth c H locs (S.1 - nx0).toNat (zz S.1 - zz nx0) (S'.1 - S.1).toNat (zz S'.1 - zz S.1) (F0 m pc lr st0) (rest.map (cv g)) (QcO g mi.2.2.2 S' Q a) (fun q => gB g ≤ q))
    (hk : ∀ (r : LV) (h' : Hp), okv S' r → Q r h' → ∃ st', (rvO g mi.2.2.2 r).toList ++ rest.map (cv g) = st'.map (cv g) ∧ (∀ v ∈ st', okv S' v) ∧ LJ g p e R s m args below meth c nL nx0 Qe (pc + 3) ls st' S' h') : W p (gL g) e R s m args below meth c H locs (S.1 - nx0).toNat (zz S.1 - zz nx0) Qe (F0 m pc lr st0) := by
  intro T hT X
  obtain ⟨v, st₀, t, T', L, h0, X', hL', e1, e2, ⟨r, h', hv, hor, hRL, hQ⟩, stp⟩ := hr T hT X
  cases hv
  obtain ⟨st', q1, q2, q3⟩ := hk r h' hor hQ
  have hz := zz_up (n := nx0) (m := S.1) hn
  have hz' := zz_up (n := S.1) (m := S'.1) hS
  have ec : (S.1 - nx0).toNat + (S'.1 - S.1).toNat = (S'.1 - nx0).toNat := by omega
  have es : zz S.1 - zz nx0 + (zz S'.1 - zz S.1) = zz S'.1 - zz nx0 := by omega
  rw [ec, es] at X'
  have hal : s.vm.Alike t.vm := by rw [← e2]; exact X'.warmed.alike
  obtain ⟨t2, a1, b1⟩ := q3 T'.heap (locs ++ L) lr (by rw [e1]; exact hRL.1) (by rw [e1]; exact hRL.2.2.moved hal.symm) (fun q hq => by
      rcases List.mem_append.mp hq with z | z
      · exact hl q z
      · exact hL' q z) hL q2 (fun i v hv => okv_up hS (hkl i v hv)) (by omega) T' rfl X'
  refine ⟨t2, stp t2 ?_, b1⟩
  show Steps p.tables e below (T'.setTop (F0 m (pc + 3) lr ((rvO g mi.2.2.2 r).toList ++ rest.map (cv g)))) t2
  rw [q1]
  exact a1
theorem ret_sound {n rk : Nat} {mi : MI} {k : Lc → List LV → Sx → Hp → Prop} {rest : List LV} (hb : MB n rk mi) (hrest : ∀ v ∈ rest, okv S v) (hk : ∀ ls st S h, k ls st S h → LJ g p e R s m args below meth c nL nx0 Qe (pc + 3) ls st S h) : ∀ (r : LV) (h' : Hp), okv S r → ret_ rk k ls rest S r h' → ∃ st', (rvO g mi.2.2.2 r).toList ++ rest.map (cv g) = st'.map (cv g) ∧ (∀ v ∈ st', okv S v) ∧ LJ g p e R s m args below meth c nL nx0 Qe (pc + 3) ls st' S h' := by
  intro r h' hor hQ
  obtain ⟨-, -, -, -, -, hrk, -⟩ := hb
  generalize mi.2.2.2 = ret at hrk ⊢
  have one : ∀ ty, ret = some ty → (rvO g ret r).toList ++ rest.map (cv g) = (r :: rest).map (cv g) := by
    intro ty z
    rw [z]
    rfl
  match rk, ret, hrk, hQ with
  | 0, none, _, hQ => exact ⟨rest, rfl, hrest, hk _ _ _ _ hQ⟩
  | 1, some ty, hrk, hQ =>
    match r, hQ with
    | Sum.inl x, hQ => exact ⟨_, one ty rfl, List.forall_mem_cons.mpr ⟨hor, hrest⟩, hk _ _ _ _ hQ⟩
  | 2, some ty, hrk, hQ =>
    match r, hQ with
    | Sum.inr (Sum.inl x), hQ => exact ⟨_, one ty rfl, List.forall_mem_cons.mpr ⟨hor, hrest⟩, hk _ _ _ _ hQ⟩
  | t + 3, none, hrk, hQ => simp [rkOk] at hrk
  | t + 3, some ty, hrk, hQ =>
    match r, hQ with
    | Sum.inr (Sum.inr q), hQ =>
      refine ⟨_, one ty rfl, List.forall_mem_cons.mpr ⟨hor, hrest⟩, ?_⟩
      have := hk _ _ _ _ hQ.2
      rw [← hQ.1] at this
      exact this
theorem PcO.start {H : Heap} {as : List LV} (C : Cx g own p s m args c cc nL) (hH : HR g S h H) (hZ : SZ g s H) : ∀ U : State, U.heap = H → s.WarmedH U.vm → PcO g as S h (as.map (cv g)).toArray U := fun U hU hW => ⟨rfl, by rw [hU]; exact hH, C.2.2.2.2.2.2.2.warm hW, by rw [hU]; exact hZ.moved hW.alike⟩
theorem zt_callV {idx n rk ct : Nat} {mi : MI} {r : Nat × Int} {as rest : List LV} {k : Lc → List LV → Sx → Hp → Prop} (C : Cx g own p s m args c cc nL) (hRf : d + 1 ≤ R.frames) (hRl : 32 + 32 * d ≤ R.locals) (hRc : (S.1 - nx0).toNat ≤ R.cells ∧ zz S.1 - zz nx0 ≤ R.slots) (hm : MO0 own idx n rk ct mi) (hst : st = as.reverse ++ Sum.inr (Sum.inr r) :: rest) (hlen : as.length = n) (hr1 : r.1 = ct) (hr0 : r.2 ≠ 0) (hcat : (rest.map lcat).sum ≤ 8) (hd : decode cc pc = .ok (.invokevirtual idx, 3))
    (hG : Good g d mi (Sum.inr (Sum.inr r) :: as) S h S (ret_ rk k ls rest S)) (hk : ∀ ls st S h, k ls st S h → LJ g p e R s m args below meth c nL nx0 Qe (pc + 3) ls st S h) : LJ g p e R s m args below meth c nL nx0 Qe pc ls st S h := by
  subst hst
  intro H locs lr hH hZ hl hL hs hkl hn
  obtain ⟨m1, m2, m3, m4, m5, m6⟩ := hm
  have hs1 : ∀ v ∈ as, okv S v := fun v hv => hs v (List.mem_append_left _ (List.mem_reverse.mpr hv))
  have hs2 : okv S (Sum.inr (Sum.inr r)) := hs _ (List.mem_append_right _ List.mem_cons_self)
  have hs3 : ∀ v ∈ rest, okv S v := fun v hv => hs v (List.mem_append_right _ (List.mem_cons_of_mem _ hv))
  have hM := hG C.2.2.2.2.2.2.1 (List.forall_mem_cons.mpr ⟨hs2, hs1⟩)
  have hobj : ∃ cellB : Cell, H[gR g r.2]? = some cellB ∧ cellB.vm.isStatics = false ∧ s.vm.findClass mi.1.cls = some cellB.cls := by
    have ho : okr S r.1 r.2 := hs2
    rcases ho with ho | ⟨o1, o2, o3⟩
    · exact absurd ho hr0
    have hc := hH.2.2 r.2 o1 o2
    unfold CR at hc
    rw [o3, hr1, if_pos (show ct < 20 by omega)] at hc
    obtain ⟨⟨cell, c1, c2, c3, -⟩, -⟩ := hc
    exact ⟨cell, c1, by rw [c3]; rfl, by rw [m4, c2]; exact (C.2.2.2.2.2.2.2.2.1 ct m5).2.1⟩
  have hb := m6
  obtain ⟨b1, b2, b3, b4, b5, b6, b7⟩ := m6
  have cw : CallW R s args (cnm own) mi.1.cls idx mi.1 mi.2.1 mi.2.2.1 mi.2.2.2 (wsO mi) (rmO d S S) (S.1 - S.1).toNat (zz S.1 - zz S.1) n := ⟨callB_of n C.2.2.2.2.2.1 (goodIn_O b1) rfl rfl rfl (C.word b2 rfl) (C.word m1 rfl) ⟨b3.1, b3.2, b4⟩ ⟨hRf, by show 8 + (mi.2.2.1 + 11) + 32 * d ≤ R.locals; omega⟩, C.word m2 rfl, C.word m3 rfl⟩
  have hr := va_runV (As := as.map (cv g)) (rest := rest.map (cv g)) (g := F0 m pc lr ((as.reverse ++ Sum.inr (Sum.inr r) :: rest).map (cv g))) (locs := locs) (cells := (S.1 - nx0).toNat) (slots := zz S.1 - zz nx0) (e := e) (below := below) (meth := meth) ⟨C.2.1, C.2.2.1, C.2.2.2.1, C.2.2.2.2.1, C.2.2.2.2.2.1⟩ hM cw ⟨PcO.blind, hobj, fun U hU hW => by
      have := PcO.start (as := Sum.inr (Sum.inr r) :: as) C hH hZ U hU hW
      rw [List.map_cons, stk_ref hr0] at this
      exact this⟩ rfl (by rw [List.length_map]; exact hlen) hL.1 (by
      show (as.reverse ++ Sum.inr (Sum.inr r) :: rest).map (cv g) = _
      rw [List.map_append, List.map_cons, List.map_reverse, stk_ref hr0]) (by
      show 2 * 0 + _ ≤ 8
      rw [lcat_sum]; omega) hd ⟨by rw [Int.sub_self]; exact hRc.1, by rw [Nat.sub_self]; exact hRc.2⟩
  exact zt_back (S' := S) C hl hL hs3 hkl hn (Int.le_refl _) hr (ret_sound hb hs3 hk)
theorem zt_callS {idx n rk : Nat} {mi : MI} {as rest : List LV} {k : Lc → List LV → Sx → Hp → Prop} (C : Cx g own p s m args c cc nL) (hRf : d + 1 ≤ R.frames) (hRl : 32 + 32 * d ≤ R.locals) (hRc : (S.1 - nx0).toNat ≤ R.cells ∧ zz S.1 - zz nx0 ≤ R.slots) (hm : MO1 own idx n rk mi) (hst : st = as.reverse ++ rest) (hlen : as.length = n) (hcat : (rest.map lcat).sum ≤ 8) (hd : decode cc pc = .ok (.invokestatic idx, 3))
    (hG : Good g d mi as S h S (ret_ rk k ls rest S)) (hk : ∀ ls st S h, k ls st S h → LJ g p e R s m args below meth c nL nx0 Qe (pc + 3) ls st S h) : LJ g p e R s m args below meth c nL nx0 Qe pc ls st S h := by
  subst hst
  intro H locs lr hH hZ hl hL hs hkl hn
  obtain ⟨m1, m2, m6⟩ := hm
  have hs1 : ∀ v ∈ as, okv S v := fun v hv => hs v (List.mem_append_left _ (List.mem_reverse.mpr hv))
  have hs3 : ∀ v ∈ rest, okv S v := fun v hv => hs v (List.mem_append_right _ hv)
  have hM := hG C.2.2.2.2.2.2.1 hs1
  have hb := m6
  obtain ⟨b1, b2, b3, b4, b5, b6, b7⟩ := m6
  have cw : CallB R s args (cnm own) idx mi.1 mi.2.1 mi.2.2.1 mi.2.2.2 (wsO mi) (rmO d S S) (S.1 - S.1).toNat (zz S.1 - zz S.1) n := callB_of n C.2.2.2.2.2.1 (goodIn_O b1) rfl rfl rfl (C.word b2 rfl) (C.word m1 rfl) ⟨b3.1, b3.2, b4⟩ ⟨hRf, by show 8 + (mi.2.2.1 + 11) + 32 * d ≤ R.locals; omega⟩
  have hr := va_runS (As := as.map (cv g)) (rest := rest.map (cv g)) (g := F0 m pc lr ((as.reverse ++ rest).map (cv g))) (locs := locs) (cells := (S.1 - nx0).toNat) (slots := zz S.1 - zz nx0) (e := e) (below := below) (meth := meth) ⟨C.2.1, C.2.2.1, C.2.2.2.1, C.2.2.2.2.1, C.2.2.2.2.2.1⟩ hM ⟨cw, C.word m2 rfl⟩ ⟨PcO.blind, PcO.start C hH hZ⟩ rfl (by rw [List.length_map]; exact hlen) hL.1 (by
      show (as.reverse ++ rest).map (cv g) = _
      rw [List.map_append, List.map_reverse]) (by
      show 2 * 0 + _ ≤ 8
      rw [lcat_sum]; omega) hd ⟨by rw [Int.sub_self]; exact hRc.1, by rw [Nat.sub_self]; exact hRc.2⟩
  exact zt_back (S' := S) C hl hL hs3 hkl hn (Int.le_refl _) hr (ret_sound hb hs3 hk)
theorem zt_callI {idx n ct : Nat} {mi : MI} {r : Nat × Int} {as rest : List LV} {S' : Sx} {k : Hp → Prop} (C : Cx g own p s m args c cc nL) (hRf : d + 1 ≤ R.frames) (hRl : 32 + 32 * d ≤ R.locals) (hR : (nx1 - nx0).toNat ≤ R.cells ∧ zz nx1 - zz nx0 ≤ R.slots) (hSS : S.1 ≤ S'.1) (hS1 : S'.1 ≤ nx1) (hm : MO2 own idx n 0 ct mi ∨ MO3 own idx n 0 ct mi) (hst : st = as.reverse ++ Sum.inr (Sum.inr r) :: rest) (hlen : as.length = n) (hr1 : r.1 = ct) (hr0 : r.2 ≠ 0) (hcat : (rest.map lcat).sum ≤ 8) (hd : decode cc pc = .ok (.invokespecial idx, 3))
    (hG : Good g d mi (Sum.inr (Sum.inr r) :: as) S h S' (retV k)) (hk : ∀ h, k h → LJ g p e R s m args below meth c nL nx0 Qe (pc + 3) ls rest S' h) : LJ g p e R s m args below meth c nL nx0 Qe pc ls st S h := by
  subst hst
  intro H locs lr hH hZ hl hL hs hkl hn
  have hs1 : ∀ v ∈ as, okv S v := fun v hv => hs v (List.mem_append_left _ (List.mem_reverse.mpr hv))
  have hs2 : okv S (Sum.inr (Sum.inr r)) := hs _ (List.mem_append_right _ List.mem_cons_self)
  have hs3 : ∀ v ∈ rest, okv S v := fun v hv => hs v (List.mem_append_right _ (List.mem_cons_of_mem _ hv))
  have hM := hG C.2.2.2.2.2.2.1 (List.forall_mem_cons.mpr ⟨hs2, hs1⟩)
  have hz0 := zz_up (n := nx0) (m := S.1) hn
  have hz1 := zz_up (n := S.1) (m := S'.1) hSS
  have hz2 := zz_up (n := S'.1) (m := nx1) hS1
  have hfit : (S.1 - nx0).toNat + (S'.1 - S.1).toNat ≤ R.cells ∧ zz S.1 - zz nx0 + (zz S'.1 - zz S.1) ≤ R.slots := ⟨Nat.le_trans (by omega) hR.1, Nat.le_trans (by omega) hR.2⟩
  have hpre : PreS s H (PcO g (Sum.inr (Sum.inr r) :: as) S h) (.ref (gR g r.2) :: as.map (cv g)) := ⟨PcO.blind, fun U hU hW => by
      have := PcO.start (as := Sum.inr (Sum.inr r) :: as) C hH hZ U hU hW
      rw [List.map_cons, stk_ref hr0] at this
      exact this⟩
  have hstk : (F0 m pc lr ((as.reverse ++ Sum.inr (Sum.inr r) :: rest).map (cv g))).stack = (as.map (cv g)).reverse ++ .ref (gR g r.2) :: rest.map (cv g) := by
      show (as.reverse ++ Sum.inr (Sum.inr r) :: rest).map (cv g) = _
      rw [List.map_append, List.map_cons, List.map_reverse, stk_ref hr0]
  have hW8 : 2 * (F0 m pc lr ((as.reverse ++ Sum.inr (Sum.inr r) :: rest).map (cv g))).monitorRoom + ((rest.map (cv g)).map fun v => v.category).sum ≤ 8 := by
      show 2 * 0 + _ ≤ 8
      rw [lcat_sum]; omega
  have hmb : MB n 0 mi := by
    rcases hm with z | z
    · exact z.2.2.2.2.2
    · exact z.2.2.2.2.2
  have hret : mi.2.2.2 = none := by
    have hrk := hmb.2.2.2.2.2.1
    generalize mi.2.2.2 = ret at hrk
    match ret, hrk with
    | none, _ => rfl
  have fin : ∀ (q : LV) (h' : Hp), okv S' q → retV k q h' → ∃ st', (rvO g mi.2.2.2 q).toList ++ rest.map (cv g) = st'.map (cv g) ∧ (∀ v ∈ st', okv S' v) ∧ LJ g p e R s m args below meth c nL nx0 Qe (pc + 3) ls st' S' h' := fun q h' _ hq => ⟨rest, by rw [hret]; rfl, fun v hv => okv_up hSS (hs3 v hv), hk h' hq⟩
  obtain ⟨b1, b2, b3, b4, b5, b6, b7⟩ := hmb
  rcases hm with ⟨m1, m2, m3, m4, m5, -⟩ | ⟨m1, m2, m3, m4, m5, -⟩
  · have cw : CallB R s args (cnm own) idx mi.1 mi.2.1 mi.2.2.1 none (wsO mi) (rmO d S S') (S'.1 - S.1).toNat (zz S'.1 - zz S.1) n := callB_of n C.2.2.2.2.2.1 (goodIn_O b1) (by unfold wsO; rw [hret]) rfl rfl (C.word b2 rfl) (C.word m1 rfl) ⟨b3.1, b3.2, b4⟩ ⟨hRf, by show 8 + (mi.2.2.1 + 11) + 32 * d ≤ R.locals; omega⟩
    have hr := va_runI (b := gR g r.2) (As := as.map (cv g)) (rest := rest.map (cv g)) (g := F0 m pc lr ((as.reverse ++ Sum.inr (Sum.inr r) :: rest).map (cv g))) (locs := locs) (cells := (S.1 - nx0).toNat) (slots := zz S.1 - zz nx0) (e := e) (below := below) (meth := meth) ⟨C.2.1, C.2.2.1, C.2.2.2.1, C.2.2.2.2.1, C.2.2.2.2.2.1⟩ hM ⟨cw, m5, C.word m2 rfl⟩ hpre rfl (by rw [List.length_map]; exact hlen) hL.1 hstk hW8 hd hfit
    exact zt_back (S' := S') C hl hL hs3 hkl hn hSS hr fin
  · have hnw : ∃ host, va_Nw (.methodLinkNest (cnm own) idx mi.1 host) s := by
      have hN := C.2.2.2.2.2.2.2.1
      rcases m1 with ⟨rfl, rfl, rfl⟩ | ⟨rfl, rfl, rfl⟩ | ⟨rfl, rfl, rfl⟩
      · exact ⟨_, hN.1⟩
      · exact ⟨_, hN.2.1⟩
      · exact ⟨_, hN.2.2.1⟩
    obtain ⟨host, hnw⟩ := hnw
    have cw := va_cnB (R := R) (args := args) (own := cnm own) (host := host) (index := idx) (y := mi.1) (bytes := mi.2.1) (maxL := mi.2.2.1) (ret := none) (Ts := lwG) (ws := wsO mi) (rm := rmO d S S') n C.2.2.2.2.2.1 (goodIn_O b1) (by unfold wsO; rw [hret]) rfl rfl hnw (C.word b2 rfl) ⟨b3.1, b3.2, b4⟩ ⟨hRf, by show 8 + (mi.2.2.1 + 11) + 32 * d ≤ R.locals; omega⟩
    have hr := va_runIN (b := gR g r.2) (As := as.map (cv g)) (rest := rest.map (cv g)) (g := F0 m pc lr ((as.reverse ++ Sum.inr (Sum.inr r) :: rest).map (cv g))) (locs := locs) (cells := (S.1 - nx0).toNat) (slots := zz S.1 - zz nx0) (e := e) (below := below) (meth := meth) ⟨C.2.1, C.2.2.1, C.2.2.2.1, C.2.2.2.2.1, C.2.2.2.2.2.1⟩ hM ⟨cw, m5, C.word m2 rfl⟩ hpre rfl (by rw [List.length_map]; exact hlen) hL.1 hstk hW8 hd hfit
    exact zt_back (S' := S') C hl hL hs3 hkl hn hSS hr fin
end CALL
