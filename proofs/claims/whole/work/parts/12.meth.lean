/-! THE LIGHT MACHINE IS SOUND, 8: stretches and methods -/
def contig : List (Nat × Instr × Nat) → Bool
  | [] => true
  | [_] => true
  | a :: b :: t => a.1 + a.2.2 == b.1 && contig (b :: t)
def cdOk (nL : Nat) (cc : ByteArray) (cd : List (Nat × Instr × Nat)) : Prop := (∀ q ∈ cd, decode cc q.1 = .ok (q.2.1, q.2.2)) ∧ (∀ q ∈ cd, okI nL q.1 q.2.1 q.2.2 = true) ∧ contig cd = true
theorem cdOk.tail {nL : Nat} {cc : ByteArray} {q : Nat × Instr × Nat} {r : List (Nat × Instr × Nat)} (h : cdOk nL cc (q :: r)) : cdOk nL cc r := by
  refine ⟨fun x hx => h.1 x (List.mem_cons_of_mem _ hx), fun x hx => h.2.1 x (List.mem_cons_of_mem _ hx), ?_⟩
  match r, h with
  | [], _ => rfl
  | b :: t, h =>
    have := h.2.2
    simp only [contig, Bool.and_eq_true] at this
    exact this.2
theorem cdOk.drop {nL : Nat} {cc : ByteArray} {pc : Nat} : ∀ {r : List (Nat × Instr × Nat)}, cdOk nL cc r → cdOk nL cc (dropTo pc r)
  | [], h => h
  | q :: r, h => by
    unfold dropTo
    split
    · exact h
    · exact h.tail.drop
theorem dropTo_head {pc : Nat} : ∀ {r : List (Nat × Instr × Nat)} {q : Nat × Instr × Nat} {t : List (Nat × Instr × Nat)}, dropTo pc r = q :: t → q.1 = pc
  | [], q, t, h => by cases h
  | a :: r, q, t, h => by
    unfold dropTo at h
    split at h
    · rename_i z
      cases h
      simpa using z
    · exact dropTo_head h
theorem lmsk_get : ∀ {b : List Bool} {ls : Lc} {i : Nat} {v : LV}, lget (lmsk b ls) i = some v → lget ls i = some v
  | true :: bs, a :: ls, 0, v, h => by simpa [lmsk, lget] using h
  | true :: bs, a :: ls, i + 1, v, h => by
    simp only [lmsk, lget] at h ⊢
    exact lmsk_get h
  | false :: bs, a :: ls, 0, v, h => by simp [lmsk, lget] at h
  | false :: bs, a :: ls, i + 1, v, h => by
    simp only [lmsk, lget] at h ⊢
    exact lmsk_get h
  | [], ls, i, v, h => by simp [lmsk, lget] at h
  | true :: _, [], i, v, h => by simp [lmsk, lget] at h
  | false :: _, [], i, v, h => by simp [lmsk, lget] at h
section METH
variable {g : Gl} {own : Nat} {p : Program} {e : Env} {R : Room} {s : State} {m : MethodId} {args : Array Value} {below : List Frame} {meth : Method} {c : Code} {cc : ByteArray} {nL : Nat} {nx0 nx1 : Int} {Qe : State → Prop} {d : Nat}
theorem LJ.mask {pc : Nat} {b : List Bool} {ls : Lc} {st : List LV} {S : Sx} {h : Hp} (X : LJ g p e R s m args below meth c nL nx0 Qe pc (lmsk b ls) st S h) : LJ g p e R s m args below meth c nL nx0 Qe pc ls st S h := fun H locs lr hH hZ hl hL hs hk hn => X H locs lr hH hZ hl ⟨hL.1, hL.2.1, fun i v hv => hL.2.2 i v (lmsk_get hv)⟩ hs (fun i v hv => hk i v (lmsk_get hv)) hn
theorem wB_sound {ini : Bool} {rk : Nat} {J : Nat → Lc → List LV → Sx → Hp → Prop} {Rt : LV → Sx → Hp → Prop} {cs : List (Nat × List Bool)} {K : Nat → Lc → List LV → Sx → Hp → Prop} (C : Cx g own p s m args c cc nL) (hini : ini = true → meth.name = "<init>") (hRf : d + 1 ≤ R.frames) (hRl : 32 + 32 * d ≤ R.locals) (hR : (nx1 - nx0).toNat ≤ R.cells ∧ zz nx1 - zz nx0 ≤ R.slots) (hret : RetOk g p e R s m args below meth c cc nL nx0 Qe rk Rt)
    (hJ : ∀ t ls st S h, J t ls st S h → LJ g p e R s m args below meth c nL nx0 Qe t ls st S h) (hK : ∀ t ls st S h, K t ls st S h → LJ g p e R s m args below meth c nL nx0 Qe t ls st S h) : ∀ (r : List (Nat × Instr × Nat)), cdOk nL cc r → ∀ (q : Nat × Instr × Nat) (t : List (Nat × Instr × Nat)), r = q :: t → ∀ ls st S h, wB g d own rk ini nx1 J Rt cs K r ls st S h → LJ g p e R s m args below meth c nL nx0 Qe q.1 ls st S h
  | [], _, q, t, hr => by cases hr
  | a :: r, hc, q, t, hr => by
    cases hr
    intro ls st S h hw
    change (match cs.lookup a.1 with
    | some b => K a.1 (lmsk b ls) st S h
    | none => T g d own rk ini nx1 J Rt a.1 a.2.1 (wB g d own rk ini nx1 J Rt cs K r) ls st S h) at hw
    split at hw
    · exact (hK _ _ _ _ _ hw).mask
    · refine T_sound (len := a.2.2) C hini hRf hRl hR hret (hc.1 a List.mem_cons_self) (hc.2.1 a List.mem_cons_self) hJ (fun ls st S h hw2 => ?_) hw
      match r, hc, hw2 with
      | [], _, hw2 => exact hw2.elim
      | b :: r', hc, hw2 =>
        have h1 := hc.2.2
        simp only [contig, Bool.and_eq_true, beq_iff_eq] at h1
        rw [h1.1]
        exact wB_sound C hini hRf hRl hR hret hJ hK (b :: r') hc.tail b r' rfl ls st S h hw2
theorem wJ_sound {ini : Bool} {rk : Nat} {Rt : LV → Sx → Hp → Prop} {cd : List (Nat × Instr × Nat)} {cs : List (Nat × List Bool)} {K : Nat → Lc → List LV → Sx → Hp → Prop} (C : Cx g own p s m args c cc nL) (hini : ini = true → meth.name = "<init>") (hRf : d + 1 ≤ R.frames) (hRl : 32 + 32 * d ≤ R.locals) (hR : (nx1 - nx0).toNat ≤ R.cells ∧ zz nx1 - zz nx0 ≤ R.slots) (hret : RetOk g p e R s m args below meth c cc nL nx0 Qe rk Rt) (hcd : cdOk nL cc cd)
    (hK : ∀ t ls st S h, K t ls st S h → LJ g p e R s m args below meth c nL nx0 Qe t ls st S h) : ∀ (n t : Nat) (ls : Lc) (st : List LV) (S : Sx) (h : Hp), wJ g d own rk ini nx1 Rt cd cs K n t ls st S h → LJ g p e R s m args below meth c nL nx0 Qe t ls st S h
  | 0, t, ls, st, S, h, hw => hK _ _ _ _ _ hw
  | n + 1, t, ls, st, S, h, hw => by
    change wB g d own rk ini nx1 (wJ g d own rk ini nx1 Rt cd cs K n) Rt cs K (dropTo t cd) ls st S h at hw
    cases hdr : dropTo t cd with
    | nil => rw [hdr] at hw; exact hw.elim
    | cons q r =>
      rw [hdr] at hw
      have := wB_sound C hini hRf hRl hR hret (wJ_sound C hini hRf hRl hR hret hcd hK n) hK (q :: r) (by rw [← hdr]; exact hcd.drop) q r rfl ls st S h hw
      rw [dropTo_head hdr] at this
      exact this
theorem w0_sound {ini : Bool} {rk n t : Nat} {Rt : LV → Sx → Hp → Prop} {cd : List (Nat × Instr × Nat)} {cs : List (Nat × List Bool)} {K : Nat → Lc → List LV → Sx → Hp → Prop} {ls : Lc} {st : List LV} {S : Sx} {h : Hp} (C : Cx g own p s m args c cc nL) (hini : ini = true → meth.name = "<init>") (hRf : d + 1 ≤ R.frames) (hRl : 32 + 32 * d ≤ R.locals) (hR : (nx1 - nx0).toNat ≤ R.cells ∧ zz nx1 - zz nx0 ≤ R.slots) (hret : RetOk g p e R s m args below meth c cc nL nx0 Qe rk Rt) (hcd : cdOk nL cc cd)
    (hK : ∀ t ls st S h, K t ls st S h → LJ g p e R s m args below meth c nL nx0 Qe t ls st S h) (hw : w0 g d own rk ini nx1 Rt cd cs K n t ls st S h) : LJ g p e R s m args below meth c nL nx0 Qe t ls st S h := by
  unfold w0 at hw
  cases hdr : dropTo t cd with
  | nil => rw [hdr] at hw; exact hw.elim
  | cons q r =>
    rw [hdr] at hw
    have hq : cdOk nL cc (q :: r) := by rw [← hdr]; exact hcd.drop
    have hJ := wJ_sound (ini := ini) (rk := rk) (Rt := Rt) (cs := cs) (K := K) (d := d) C hini hRf hRl hR hret hcd hK
    have := T_sound (len := q.2.2) C hini hRf hRl hR hret (hq.1 q List.mem_cons_self) (hq.2.1 q List.mem_cons_self) (hJ n) (fun ls st S h hw2 => by
      match r, hq, hw2 with
      | [], _, hw2 => exact hw2.elim
      | b :: r', hq, hw2 =>
        have h1 := hq.2.2
        simp only [contig, Bool.and_eq_true, beq_iff_eq] at h1
        rw [h1.1]
        exact wB_sound C hini hRf hRl hR hret (hJ n) hK (b :: r') hq.tail b r' rfl ls st S h hw2) hw
    rw [dropTo_head hdr] at this
    exact this
end METH
/-- a method with its code: its names, owner, kind of answer, whether it is a constructor, its instructions -/
abbrev ME : Type := MI × Nat × Nat × Bool × List (Nat × Instr × Nat)
def rkr (rk : Nat) (ret : Option FieldType) : Prop := match rk, ret with
  | 0, none => True
  | 1, some .int => True
  | 9, some .boolean => True
  | 2, some .long => True
  | 6, some (.object _) => True
  | _, _ => False
def MEok (M : ME) : Prop := M.2.1 < 14 ∧ M.1.1.cls = cnm M.2.1 ∧ rkr M.2.2.1 M.1.2.2.2 ∧ plainName M.1.1.cls = true ∧ (M.2.2.2.1 = true → M.1.1.name = "<init>") ∧ cdOk M.1.2.2.1 M.1.2.1 M.2.2.2.2
/-- the return of a method: S as promised, and Q -/
def Fn (S1 : Sx) (Q : LV → Hp → Prop) : LV → Sx → Hp → Prop := fun r S h => S = S1 ∧ Q r h
/-- in the method M, begun at S and to end at S', the machine at pc comes to a return of which Q holds -/
def LW (g : Gl) (d : Nat) (M : ME) (S S' : Sx) (Q : LV → Hp → Prop) (pc : Nat) (ls : Lc) (st : List LV) (S1 : Sx) (h : Hp) : Prop :=
  ∀ (p : Program) (e : Env) (s : State) (m : MethodId) (args : Array Value) (below : List Frame) (meth : Method) (c : Code) (s₁ : State),
    BodyLoose p (gL g) M.1.1 (headSpec (wsO M.1) (rmO (d + 1) S S')) M.1.2.1 M.1.2.2.1 M.1.2.2.2 e s m args below meth c s₁ → c.maxLocals = M.1.2.2.1 → GK g → KN g s → S.1 ≤ S'.1 →
    LJ g p e (rmO (d + 1) S S') s m args below meth c M.1.2.2.1 S.1 (MQ below (QcO g M.1.2.2.2 S' Q) args s (S'.1 - S.1).toNat (zz S'.1 - zz S.1) (fun q => gB g ≤ q)) pc ls st S1 h
theorem QcO.mk {g : Gl} {S' : Sx} {Q : LV → Hp → Prop} {ret : Option FieldType} {r : LV} {h : Hp} {H : Heap} {s t : State} {a : Array Value} (hH : HR g S' h H) (hK : KN g s) (hZ : SZ g s H) (ho : okv S' r) (hQ : Q r h) (ht : t.heap = H) (hW : s.WarmedH t.vm) : QcO g ret S' Q a s (.returned (rvO g ret r)) t := ⟨r, h, rfl, ho, ⟨by rw [ht]; exact hH, hK.warm hW, by rw [ht]; exact hZ.moved hW.alike⟩, hQ⟩
theorem LW.run (n : Nat) (cs : List (Nat × List Bool)) {g : Gl} {d : Nat} {M : ME} {S S' : Sx} {Q : LV → Hp → Prop} {pc : Nat} {ls : Lc} {st : List LV} {S1 : Sx} {h : Hp} (hM : MEok M)
    (hw : w0 g d M.2.1 M.2.2.1 M.2.2.2.1 S'.1 (Fn S' Q) M.2.2.2.2 cs (LW g d M S S' Q) n pc ls st S1 h) : LW g d M S S' Q pc ls st S1 h := by
  intro p e s m args below meth c s₁ B hml hG hKN hSS
  obtain ⟨m1, m2, m3, m4, m5, m6⟩ := hM
  have hts := atoms_spec (ws := wsO M.1) B.pre
  have hown : s.vm.findClass M.1.1.cls = some m.cls := findClass_of_methodNamed B.named
  rw [m2] at hown
  have C : Cx g M.2.1 p s m args c M.1.2.1 M.1.2.2.1 := ⟨m1, B.exec, B.bytes, hml, hown, fun w hw => hts w (List.mem_cons_of_mem _ hw), hG, hKN⟩
  have hnm : meth.name = M.1.1.name := (name_of_methodNamed B.named B.method).1
  have hlocks := B.notSynchronized
  have hrt := B.returns
  have hret : RetOk g p e (rmO (d + 1) S S') s m args below meth c M.1.2.1 M.1.2.2.1 S.1 (MQ below (QcO g M.1.2.2.2 S' Q) args s (S'.1 - S.1).toNat (zz S'.1 - zz S.1) (fun q => gB g ≤ q)) M.2.2.1 (Fn S' Q) := by
    intro pc ls S2 h2
    refine ⟨fun x hx hR hd => ?_, fun x hx hR hd => ?_, fun r hx hr hR hd => ?_, fun hx hR hd => ?_⟩
    · obtain ⟨rfl, hQ⟩ := hR
      intro H locs lr hH hZ hl hL hs hkl hn
      have ho : okv S2 (Sum.inl x) := hs _ List.mem_cons_self
      generalize hret' : M.1.2.2.2 = ret at m3 hrt ⊢
      rcases hx with hx | ⟨hx, hb⟩
      · rw [hx] at m3
        match ret, m3 with
        | some .int, _ => exact W.iret C.2.1 C.2.2.1 hrt (fun t ht hW => QcO.mk (ret := some .int) (r := Sum.inl x) hH hKN hZ ho hQ ht hW) (fun q hq => hl q hq) hd hlocks
      · rw [hx] at m3
        match ret, m3 with
        | some .boolean, _ => exact W.zret C.2.1 C.2.2.1 hrt (by rcases hb with rfl | rfl <;> rfl) (fun t ht hW => QcO.mk (ret := some .boolean) (r := Sum.inl x) hH hKN hZ ho hQ ht hW) (fun q hq => hl q hq) hd hlocks
    · obtain ⟨rfl, hQ⟩ := hR
      intro H locs lr hH hZ hl hL hs hkl hn
      have ho : okv S2 (Sum.inr (Sum.inl x)) := hs _ List.mem_cons_self
      generalize hret' : M.1.2.2.2 = ret at m3 hrt ⊢
      rw [hx] at m3
      match ret, m3 with
      | some .long, _ => exact W.lret C.2.1 C.2.2.1 hrt (fun t ht hW => QcO.mk (ret := some .long) (r := Sum.inr (Sum.inl x)) hH hKN hZ ho hQ ht hW) (fun q hq => hl q hq) hd hlocks
    · obtain ⟨rfl, hQ⟩ := hR
      intro H locs lr hH hZ hl hL hs hkl hn
      have ho0 : okv S2 (Sum.inr (Sum.inr r)) := hs _ List.mem_cons_self
      have ho : okv S2 (LR 6 r.2) := by
        rcases hr with z | z
        · have ho1 : okr S2 r.1 r.2 := ho0
          rw [z] at ho1
          exact ho1
        · exact Or.inl z
      generalize hret' : M.1.2.2.2 = ret at m3 hrt ⊢
      rw [hx] at m3
      match ret, m3 with
      | some (.object C'), _ => exact W.aret (v := cv g (LR 6 r.2)) C.2.1 C.2.2.1 hrt (Or.inl ⟨_, rfl⟩) (by show rfv g r.2 = _ ∨ ∃ a, rfv g r.2 = _; unfold rfv; split; exact Or.inl rfl; exact Or.inr ⟨_, rfl⟩) (fun t ht hW => QcO.mk (ret := some (.object C')) (r := LR 6 r.2) hH hKN hZ ho hQ ht hW) (fun q hq => hl q hq) hd hlocks
    · obtain ⟨rfl, hQ⟩ := hR
      intro H locs lr hH hZ hl hL hs hkl hn
      generalize hret' : M.1.2.2.2 = ret at m3 hrt ⊢
      rw [hx] at m3
      match ret, m3 with
      | none, _ => exact W.vret C.2.1 C.2.2.1 hrt (fun t ht hW => QcO.mk (ret := none) (r := Sum.inl 0) hH hKN hZ inI_0 hQ ht hW) (fun q hq => hl q hq) hd hlocks
  exact w0_sound C (fun z => hnm.trans (m5 z)) (by show d + 1 ≤ d + 1; exact Nat.le_refl _) (by show 32 + 32 * d ≤ 32 * (d + 1); omega) ⟨Nat.le_refl _, Nat.le_refl _⟩ hret m6 (fun t ls st S h z => z p e s m args below meth c s₁ B hml hG hKN hSS) hw
theorem lent_arg {g : Gl} : ∀ (as : List LV) (n off j : Nat) (u : LV), lget (lent as n) j = some u → (off + j, cv g u) ∈ lv_args off (as.map (cv g))
  | [], n, off, j, u, h => by
    exfalso
    have : ∀ (n j : Nat), lget (List.replicate n none) j ≠ some u := by
      intro n
      induction n with
      | zero => intro j z; simp [lget] at z
      | succ n ih =>
        intro j z
        rw [List.replicate_succ] at z
        cases j with
        | zero => simp [lget] at z
        | succ j => simp only [lget] at z; exact ih j z
    exact this n j h
  | v :: t, n, off, j, u, h => by
    rw [List.map_cons]
    simp only [lv_args, lcat_cv]
    unfold lent at h
    split at h
    · rename_i hc
      rw [hc]
      simp only [show ¬ (1 : Nat) = 2 by decide, if_false]
      split at h
      · simp [lget] at h
      · cases j with
        | zero => simp only [lget] at h; cases h; exact List.mem_cons_self
        | succ j =>
          simp only [lget] at h
          have := lent_arg (g := g) t _ (off + 1) j u h
          rw [show off + (j + 1) = off + 1 + j by omega]
          exact List.mem_cons_of_mem _ this
    · rename_i hc
      have hc2 : lcat v = 2 := by
        rcases v with x | x | r
        · exact absurd rfl hc
        · rfl
        · exact absurd rfl hc
      rw [hc2]
      simp only [if_true]
      split at h
      · match j, h with
        | 0, h => simp only [lget] at h; cases h; exact List.mem_cons_self
        | 1, h => simp [lget] at h
        | j + 2, h =>
          simp only [lget] at h
          have := lent_arg (g := g) t _ (off + 2) j u h
          rw [show off + (j + 2) = off + 2 + j by omega]
          exact List.mem_cons_of_mem _ this
      · simp [lget] at h
theorem lent_ok {S : Sx} : ∀ (as : List LV) (n j : Nat) (u : LV), (∀ v ∈ as, okv S v) → lget (lent as n) j = some u → okv S u
  | [], n, j, u, _, h => by
    exfalso
    have : ∀ (n j : Nat), lget (List.replicate n none) j ≠ some u := by
      intro n
      induction n with
      | zero => intro j z; simp [lget] at z
      | succ n ih =>
        intro j z
        rw [List.replicate_succ] at z
        cases j with
        | zero => simp [lget] at z
        | succ j => simp only [lget] at z; exact ih j z
    exact this n j h
  | v :: t, n, j, u, hv, h => by
    have hv := List.forall_mem_cons.mp hv
    unfold lent at h
    split at h
    · split at h
      · simp [lget] at h
      · cases j with
        | zero => simp only [lget] at h; cases h; exact hv.1
        | succ j => simp only [lget] at h; exact lent_ok t _ j u hv.2 h
    · split at h
      · match j, h with
        | 0, h => simp only [lget] at h; cases h; exact hv.1
        | 1, h => simp [lget] at h
        | j + 2, h => simp only [lget] at h; exact lent_ok t _ j u hv.2 h
      · simp [lget] at h
theorem lg_len (g : Gl) : ∀ as : List LV, (lg_sl (as.map (cv g))).length = (as.map lcat).sum
  | [] => rfl
  | v :: t => by
    have ih := lg_len g t
    unfold lg_sl at ih ⊢
    rw [List.map_cons, List.flatMap_cons, List.length_append, ih, List.map_cons, List.sum_cons, lcat_cv]
    congr 1
    have : lcat v = 1 ∨ lcat v = 2 := by rcases v with x | x | r <;> simp [lcat]
    rcases this with z | z <;> rw [z] <;> rfl
/-- A METHOD'S CONTRACT out of the light walk of its body -/
theorem Good.body {g : Gl} {d : Nat} {M : ME} {as : List LV} {S S' : Sx} {h : Hp} {Q : LV → Hp → Prop} (hM : MEok M) (hSS : S.1 ≤ S'.1) (hfit : (as.map lcat).sum ≤ M.1.2.2.1) (X : (∀ v ∈ as, okv S v) → LW g d M S S' Q 0 (lent as M.1.2.2.1) [] S h) : Good g (d + 1) M.1 as S h S' Q := by
  intro hG hok
  refine Met.ofW (cc := M.1.2.1) (maxL := M.1.2.2.1) (ret := M.1.2.2.2) hM.2.2.2.1 rfl ?_
  intro p e s m args below meth c s₁ B hml hv
  obtain ⟨rfl, hH, hKN, hZ⟩ := hv
  have hl := lv_entry (as.map (cv g)) (n := M.1.2.2.1) (by rw [lg_len]; exact hfit)
  rw [lg_entry_eq]
  have hL : LcR g M.1.2.2.1 (lent as M.1.2.2.1) _ := ⟨hl.1, hl.2.1, fun i v hv => hl.2.2 (i, cv g v) (by have := lent_arg (g := g) as _ 0 i v hv; rw [Nat.zero_add] at this; exact this)⟩
  have K := X hok p e s m _ below meth c s₁ B hml hG hKN hSS s.heap [] _ hH hZ (fun q hq => by cases hq) hL (fun v hv => by cases hv) (fun i v hv => lent_ok as _ i v hok hv) (Int.le_refl _)
  rw [Int.sub_self, Nat.sub_self] at K
  exact K
theorem Good.mono {g : Gl} {d : Nat} {mi : MI} {as : List LV} {S S' : Sx} {h : Hp} {Q Q' : LV → Hp → Prop} (X : Good g d mi as S h S' Q) (f : ∀ r h, Q r h → Q' r h) : Good g d mi as S h S' Q' := by
  intro hG hok p e h1 h2 h3 s m args below h4 h5 h6 h7
  obtain ⟨n, o, a1, a2, a3, ⟨r, h', b1, b2, b3, b4⟩, a5⟩ := X hG hok p e h1 h2 h3 s m args below h4 h5 h6 h7
  exact ⟨n, o, a1, a2, a3, ⟨r, h', b1, b2, b3, f r h' b4⟩, a5⟩
theorem Good.mI {g : Gl} {d : Nat} {mi : MI} {as : List LV} {S S' : Sx} {h : Hp} {Q Q' : Int → Hp → Prop} (X : Good g d mi as S h S' (retI Q)) (f : ∀ x h, Q x h → Q' x h) : Good g d mi as S h S' (retI Q') := X.mono (fun r h => by
  unfold retI
  split
  · exact f _ h
  · exact id)
theorem Good.mL {g : Gl} {d : Nat} {mi : MI} {as : List LV} {S S' : Sx} {h : Hp} {Q Q' : Int → Hp → Prop} (X : Good g d mi as S h S' (retL Q)) (f : ∀ x h, Q x h → Q' x h) : Good g d mi as S h S' (retL Q') := X.mono (fun r h => by
  unfold retL
  split
  · exact f _ h
  · exact id)
theorem Good.mR {g : Gl} {d : Nat} {mi : MI} {as : List LV} {S S' : Sx} {h : Hp} {t : Nat} {Q Q' : Int → Hp → Prop} (X : Good g d mi as S h S' (retR t Q)) (f : ∀ x h, Q x h → Q' x h) : Good g d mi as S h S' (retR t Q') := X.mono (fun r h => by
  unfold retR
  split
  · exact fun q => ⟨q.1, f _ h q.2⟩
  · exact id)
theorem Good.mV {g : Gl} {d : Nat} {mi : MI} {as : List LV} {S S' : Sx} {h : Hp} {Q Q' : Hp → Prop} (X : Good g d mi as S h S' (retV Q)) (f : ∀ h, Q h → Q' h) : Good g d mi as S h S' (retV Q') := X.mono (fun _ h => f h)
/-- what the kinds of slots say of a heap -/
def HT (S : Sx) (g : Gl) (h : Hp) : Prop := ∀ a : Int, 0 < a → a < S.1 → ((SH a).1 < 20 → ∀ k : Nat, k < nf (SH a).1 → sok S h (SH a).1 (fkt (SH a).1 k) a k) ∧ (¬ (SH a).1 < 20 → ∀ i : Int, 0 ≤ i → i < lnn g a → sok S h (SH a).1 (akd (SH a).1) a i)
theorem HR.typed {g : Gl} {S : Sx} {h : Hp} {H : Heap} (hH : HR g S h H) : HT S g h := by
  intro a a0 a1
  have hc := hH.2.2 a a0 a1
  unfold CR at hc
  refine ⟨fun z k hk => ?_, fun z i i0 i1 => ?_⟩
  · rw [if_pos z] at hc
    exact hc.2 k hk
  · rw [if_neg z] at hc
    have := hc.2 i.toNat (by omega)
    rw [show ((i.toNat : Nat) : Int) = i by omega] at this
    exact this
theorem LW.typed {g : Gl} {d : Nat} {M : ME} {S S' : Sx} {Q : LV → Hp → Prop} {pc : Nat} {ls : Lc} {st : List LV} {S1 : Sx} {h : Hp} (X : HT S1 g h → LW g d M S S' Q pc ls st S1 h) : LW g d M S S' Q pc ls st S1 h :=
  fun p e s m args below meth c s₁ B hml hG hKN hSS H locs lr hH hZ hl hL hs hk hn => X hH.typed p e s m args below meth c s₁ B hml hG hKN hSS H locs lr hH hZ hl hL hs hk hn
