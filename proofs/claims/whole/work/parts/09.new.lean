/-! THE LIGHT MACHINE IS SOUND, 5: new, static arrays, arraycopy, Math, Object.<init> -/
theorem getD_le {l : List (Nat × Int)} {i : Nat} {B : Int} (h : ∀ q ∈ l, q.2 ≤ B) (h0 : 0 ≤ B) : (l.getD i (99, 0)).2 ≤ B := by
  rw [List.getD_eq_getElem?_getD]
  cases hi : l[i]? with
  | none => exact h0
  | some q => exact h q (List.mem_of_getElem? hi)
theorem sh_len (a : Int) (ha : 4 ≤ a) : (SH a).2 ≤ 21000 ∧ (a < 608 → (SH a).2 ≤ 3000) := by
  unfold SH
  split
  · exact ⟨Int.le_trans (getD_le (B := 3000) (by decide) (by decide)) (by decide), fun _ => getD_le (by decide) (by decide)⟩
  · split
    · exact ⟨Int.le_trans (getD_le (B := 3000) (by decide) (by decide)) (by decide), fun _ => getD_le (by decide) (by decide)⟩
    · refine ⟨getD_le (by decide) (by decide), fun hb => ?_⟩
      have e : shB.getD (a - 595).toNat (99, 0) = (shB.take 13).getD (a - 595).toNat (99, 0) := by
        rw [List.getD_eq_getElem?_getD, List.getD_eq_getElem?_getD, List.getElem?_take_of_lt (by omega)]
      rw [e]
      exact getD_le (by decide) (by decide)
theorem zz_up {n m : Int} (h : n ≤ m) : zz n ≤ zz m := by unfold zz; omega
theorem zz_1 {n : Int} (h0 : 0 ≤ n) : zz n + (if n < 608 then 3000 else 21000) ≤ zz (n + 1) := by
  unfold zz
  split <;> omega
theorem zz_len {a : Int} (ha : 4 ≤ a) : zz a + (SH a).2.toNat ≤ zz (a + 1) := by
  have h1 := zz_1 (n := a) (by omega)
  have h2 := sh_len a ha
  split at h1
  · have := h2.2 (by assumption); omega
  · have := h2.1; omega
theorem nf_le (t : Nat) (ht : t < 11) : nf t ≤ 80 := by
  match t, ht with
  | 0, _ | 1, _ | 2, _ | 3, _ | 4, _ | 5, _ | 6, _ | 7, _ | 8, _ | 9, _ | 10, _ => decide
theorem CR.lt {g : Gl} {S : Sx} {h : Hp} {H : Heap} {b : Int} (hc : CR g S h H b) : gR g b < H.size := by
  unfold CR at hc
  split at hc
  · obtain ⟨⟨cell, c1, -⟩, -⟩ := hc
    exact (Array.getElem?_eq_some_iff.mp c1).1
  · obtain ⟨⟨cell, c1, -⟩, -⟩ := hc
    exact (Array.getElem?_eq_some_iff.mp c1).1
theorem hclr_ne {h : Hp} {a b j : Int} (hb : b ≠ a) : hclr h a b j = h b j := by
  unfold hclr
  rw [if_neg hb]
theorem hclr_at {h : Hp} {a j : Int} : hclr h a a j = 0 := by
  unfold hclr
  rw [if_pos rfl]
theorem sclr_ne {r : Nat → Int → Int → Int} {t : Nat} {a b j : Int} (hb : b ≠ a) : sclr r a t b j = r t b j := by
  unfold sclr
  rw [if_neg hb]
theorem sclr_at {r : Nat → Int → Int → Int} {t : Nat} {a j : Int} : sclr r a t a j = 0 := by
  unfold sclr
  rw [if_pos rfl]
theorem HR.push {g : Gl} {S : Sx} {h : Hp} {H H' : Heap} (hH : HR g S h H) (hz : H'.size = H.size + 1) (ho : ∀ q, q < H.size → H'[q]? = H[q]?) (hc : CR g (S.1 + 1, sclr S.2 S.1) (hclr h S.1) H' S.1) : HR g (S.1 + 1, sclr S.2 S.1) (hclr h S.1) H' := by
  obtain ⟨h1, h2, h3⟩ := hH
  refine ⟨by show 4 ≤ S.1 + 1; omega, by rw [hz, h2]; show _ = gB g + (S.1 + 1 - 4).toNat; omega, fun b b0 b1 => ?_⟩
  have b1 : b < S.1 + 1 := b1
  by_cases e : b = S.1
  · rw [e]; exact hc
  · have hcb := h3 b b0 (by omega)
    exact hcb.congr (by show S.1 ≤ S.1 + 1; omega) (fun i => hclr_ne e) (fun t i => sclr_ne e) (ho _ hcb.lt)
theorem SZ.push {g : Gl} {s : State} {H H' : Heap} (h : SZ g s H) (ho : ∀ q, q < H.size → H'[q]? = H[q]?) : SZ g s H' := ⟨h.1.kept (fun q hq _ => ho q hq), h.2.kept (fun q hq _ => ho q hq)⟩
section NEW
variable {g : Gl} {own : Nat} {p : Program} {e : Env} {R : Room} {s : State} {m : MethodId} {args : Array Value} {below : List Frame} {meth : Method} {c : Code} {cc : ByteArray} {nL : Nat} {nx0 nx1 : Int} {Qe : State → Prop} {pc : Nat} {ls : Lc} {st : List LV} {S : Sx} {h : Hp}
theorem sval_0 (g : Gl) (S : Sx) (h : Hp) {t k : Nat} {a : Int} (hko : KOk t k) : defaultValue (fty t k) = sval g (S.1 + 1, sclr S.2 a) (hclr h a) t (fkt t k).1 a k ∧ sok (S.1 + 1, sclr S.2 a) (hclr h a) t (fkt t k) a k := by
  obtain ⟨-, -, hk⟩ := hko
  have hp : fkt t k = ((fkt t k).1, (fkt t k).2) := rfl
  rw [hp]
  simp only
  generalize (fkt t k).1 = kd at hk
  generalize (fkt t k).2 = kt
  generalize fty t k = ty at hk ⊢
  match kd, ty, hk with
  | 0, .int, _ => simp only [sval, sok, hclr_at]; exact ⟨rfl, inI_0⟩
  | 1, .boolean, _ => exact ⟨by simp only [sval, hclr_at]; rfl, Or.inl hclr_at⟩
  | 2, .long, _ => simp only [sval, sok, hclr_at]; exact ⟨rfl, by decide, by decide⟩
  | 3, .object _, _ => simp only [sval, sok, sclr_at]; exact ⟨rfl, Or.inl rfl⟩
  | 3, .array _, _ => simp only [sval, sok, sclr_at]; exact ⟨rfl, Or.inl rfl⟩
  | 4, .object _, _ => simp only [sval, sok, hclr_at]; exact ⟨rfl, Or.inl rfl⟩
theorem zt_new {n t : Nat} (C : Cx g own p s m args c cc nL) (hR : (nx1 - nx0).toNat ≤ R.cells ∧ zz nx1 - zz nx0 ≤ R.slots) (hn0 : n < 1000) (hc : cpc own n = some t) (hsh : (SH S.1).1 = t) (hx1 : S.1 + 1 ≤ nx1) (hd : decode cc pc = .ok (.new n, 3)) (X : LJ g p e R s m args below meth c nL nx0 Qe (pc + 3) ls (LR t S.1 :: st) (S.1 + 1, sclr S.2 S.1) (hclr h S.1)) : LJ g p e R s m args below meth c nL nx0 Qe pc ls st S h := by
  intro H locs lr hH hZ hl hL hs hkl hn
  obtain ⟨k1, k2, k3, k4⟩ := cA_.get hc
  rw [show (own * 1000 + n) / 1000 = own by omega, show (own * 1000 + n) % 1000 = n by omega] at k2
  have hKn := C.2.2.2.2.2.2.2.2.1 t k1
  have h4 := hH.1
  have hzz := zz_1 (n := S.1) (by omega)
  have hz1 := zz_up (n := S.1 + 1) (m := nx1) hx1
  have hz0 := zz_up (n := nx0) (m := S.1) hn
  have hnf := nf_le t k1
  have hlo : 3000 ≤ (if S.1 < 608 then 3000 else 21000) := by split <;> omega
  refine W.newcK C.2.1 C.2.2.1 C.2.2.2.2.1 (C.word k2 rfl) (C.word k3 rfl) (C.word k4 rfl) rfl hd (Nat.le_trans (by omega) hR.1) (Nat.le_trans (by omega) hR.2) hKn.2.1 rfl fun H1 kC hkC e1 z1 o1 => ?_
  have hcr : CR g (S.1 + 1, sclr S.2 S.1) (hclr h S.1) H1 S.1 := by
    unfold CR
    rw [hsh, if_pos (by omega)]
    have hb := u_born (o := gR g S.1) (H := H1) (fty t) C.2.2.2.2.2.1 (C.lays k1) hKn hkC (by rw [C.2.2.2.2.2.2.1.1 _ h4, ← hH.2.1]; exact e1) (fun k hk => (ko_all k1 hk).1)
    exact ⟨hb.to (fun k hk => (sval_0 g S h (ko_all k1 hk)).1), fun k hk => (sval_0 g S h (ko_all k1 hk)).2⟩
  have hH1 := hH.push z1 o1 hcr
  have ho : okr (S.1 + 1, sclr S.2 S.1) t S.1 := Or.inr ⟨by omega, by show S.1 < S.1 + 1; omega, hsh⟩
  have K := X H1 locs lr hH1 (hZ.push o1) hl hL (List.forall_mem_cons.mpr ⟨ho, fun v hv => okv_up (by show S.1 ≤ S.1 + 1; omega) (hs v hv)⟩) (fun i v hv => okv_up (by show S.1 ≤ S.1 + 1; omega) (hkl i v hv)) (by show nx0 ≤ S.1 + 1; omega)
  rw [List.map_cons, stk_ref (show ((t, S.1) : Nat × Int).2 ≠ 0 by show S.1 ≠ 0; omega)] at K
  rw [C.2.2.2.2.2.2.1.1 _ h4, ← hH.2.1] at K
  refine W.widen (k := (S.1 + 1 - nx0).toNat) (n := zz (S.1 + 1) - zz nx0) (by omega) (by omega) K
theorem zt_newa {a : ArrayType} {n : Int} (C : Cx g own p s m args c cc nL) (hR : (nx1 - nx0).toNat ≤ R.cells ∧ zz nx1 - zz nx0 ≤ R.slots) (hsh : SH S.1 = (atc a, n)) (ha : atc a < 24) (hn0 : 0 ≤ n) (hx1 : S.1 + 1 ≤ nx1) (hd : decode cc pc = .ok (.newarray a, 2)) (X : LJ g p e R s m args below meth c nL nx0 Qe (pc + 2) ls (LR (atc a) S.1 :: st) (S.1 + 1, sclr S.2 S.1) (hclr h S.1)) : LJ g p e R s m args below meth c nL nx0 Qe pc ls (Sum.inl n :: st) S h := by
  intro H locs lr hH hZ hl hL hs hkl hn
  have s1 := List.forall_mem_cons.mp hs
  have kn : inI n := s1.1
  have h4 := hH.1
  have hzz := zz_len (a := S.1) h4
  rw [hsh] at hzz
  simp only at hzz
  have hz1 := zz_up (n := S.1 + 1) (m := nx1) hx1
  have hz0 := zz_up (n := nx0) (m := S.1) hn
  have hlen := (sh_len S.1 h4).1
  rw [hsh] at hlen
  simp only at hlen
  have hlnn : lnn g S.1 = n := by unfold lnn; rw [if_neg (by omega), hsh]
  have hneg : ¬ Int32.ofInt n < 0 := fun z => by have := (lt32 kn inI_0).mp z; omega
  have key : ∀ (t : Nat) (ty : FieldType), atc a = t → newarray.typeOf a = ty → 20 ≤ t → aty t = ty → Jvm.Cond.arrayClass ty ∈ lw_tbl → componentBytes ty ≤ 8 → (∀ cA, va_RA s cA ty → s.vm.findClass ("[" ++ ty.toString) = some cA) → (∀ i : Nat, defaultValue ty = sval g (S.1 + 1, sclr S.2 S.1) (hclr h S.1) t (akd t).1 S.1 i ∧ sok (S.1 + 1, sclr S.2 S.1) (hclr h S.1) t (akd t) S.1 i) → W p (gL g) e R s m args below meth c H locs (S.1 - nx0).toNat (zz S.1 - zz nx0) Qe (F0 m pc lr ((Sum.inl n :: st).map (cv g))) := by
    intro t ty ht hty ht20 hat hw hcb hra hdef
    have hra := hra _ (by rw [← hat]; exact (C.2.2.2.2.2.2.2.2.2.1 t ht20 (by omega)).2)
    refine W.newa (atype := a) C.2.1 C.2.2.1 (by rw [hty]; exact C.word hw rfl) rfl hd (n := Int32.ofInt n) (rest := st.map (cv g)) rfl hneg (by
      rw [nn32 kn, hty]
      have : n.toNat * componentBytes ty ≤ 21000 * 8 := Nat.mul_le_mul (by omega) hcb
      omega) (Nat.le_trans (by omega) hR.1) (Nat.le_trans (by rw [nn32 kn]; omega) hR.2) fun cA kA comp a1 a2 a3 => ?_
    rw [hty] at a1
    have ecA : cA = gA g t := Option.some.inj (a1.symm.trans hra)
    rw [hty, nn32 kn]
    generalize hH1 : H.push ({ cls := cA, slots := Array.replicate n.toNat (defaultValue ty), vm := .none } : Cell) = H1
    have z1 : H1.size = H.size + 1 := by rw [← hH1, Array.size_push]
    have e1 : H1[H.size]? = some ({ cls := cA, slots := Array.replicate n.toNat (defaultValue ty), vm := .none } : Cell) := by rw [← hH1, Array.getElem?_push_size]
    have o1 : ∀ q : Nat, q < H.size → H1[q]? = H[q]? := fun q hq => by rw [← hH1, Array.getElem?_push, if_neg (Nat.ne_of_lt hq)]
    have hcr : CR g (S.1 + 1, sclr S.2 S.1) (hclr h S.1) H1 S.1 := by
      unfold CR
      rw [hsh]
      simp only [ht]
      rw [if_neg (by omega), hlnn]
      refine ⟨⟨_, by rw [C.2.2.2.2.2.2.1.1 _ h4, ← hH.2.1]; exact e1, by show cA = gK g S.1; rw [gK_4 h4, hsh]; show cA = gA g (atc a); rw [ht]; exact ecA, AV_0, AZ.of (by simp) hn0, fun i hi => ?_⟩, fun i hi => (hdef i).2⟩
      rw [Array.getElem?_replicate, if_pos hi, (hdef i).1]
    have hH1' := hH.push z1 o1 hcr
    have ho : okr (S.1 + 1, sclr S.2 S.1) t S.1 := Or.inr ⟨by omega, by show S.1 < S.1 + 1; omega, by rw [hsh]; exact ht⟩
    rw [ht] at X
    have K := X H1 locs lr hH1' (hZ.push o1) hl hL (List.forall_mem_cons.mpr ⟨ho, fun v hv => okv_up (by show S.1 ≤ S.1 + 1; omega) (s1.2 v hv)⟩) (fun i v hv => okv_up (by show S.1 ≤ S.1 + 1; omega) (hkl i v hv)) (by show nx0 ≤ S.1 + 1; omega)
    rw [List.map_cons, stk_ref (show ((t, S.1) : Nat × Int).2 ≠ 0 by show S.1 ≠ 0; omega)] at K
    rw [C.2.2.2.2.2.2.1.1 _ h4, ← hH.2.1] at K
    exact W.widen (k := (S.1 + 1 - nx0).toNat) (n := zz (S.1 + 1) - zz nx0) (by omega) (by omega) K
  cases a with
  | int => exact key 20 .int rfl rfl (by decide) rfl in_arr.1 (by decide) (fun _ z => z) (fun i => by simp only [sval, sok, akd, hclr_at]; exact ⟨rfl, inI_0⟩)
  | long => exact key 21 .long rfl rfl (by decide) rfl in_arr.2.1 (by decide) (fun _ z => z) (fun i => by simp only [sval, sok, akd, hclr_at]; exact ⟨rfl, by decide, by decide⟩)
  | boolean => exact key 22 .boolean rfl rfl (by decide) rfl in_arr.2.2.1 (by decide) (fun _ z => z) (fun i => ⟨by simp only [sval, akd, hclr_at]; rfl, Or.inl hclr_at⟩)
  | byte => exact key 23 .byte rfl rfl (by decide) rfl in_arr.2.2.2.1 (by decide) (fun _ z => z) (fun i => by simp only [sval, sok, akd, hclr_at]; exact ⟨rfl, by decide, by decide⟩)
  | char => exact absurd ha (by decide)
  | float => exact absurd ha (by decide)
  | double => exact absurd ha (by decide)
  | short => exact absurd ha (by decide)
theorem zt_anew {i : Nat} {n : Int} (C : Cx g own p s m args c cc nL) (hR : (nx1 - nx0).toNat ≤ R.cells ∧ zz nx1 - zz nx0 ≤ R.slots) (hi0 : i < 1000) (hc : cpc own i = some 6) (hsh : SH S.1 = (24, n)) (hn0 : 0 ≤ n) (hx1 : S.1 + 1 ≤ nx1) (hd : decode cc pc = .ok (.anewarray i, 3)) (X : LJ g p e R s m args below meth c nL nx0 Qe (pc + 3) ls (LR 24 S.1 :: st) (S.1 + 1, sclr S.2 S.1) (hclr h S.1)) : LJ g p e R s m args below meth c nL nx0 Qe pc ls (Sum.inl n :: st) S h := by
  intro H locs lr hH hZ hl hL hs hkl hn
  obtain ⟨k1, k2, k3, k4⟩ := cA_.get hc
  rw [show (own * 1000 + i) / 1000 = own by omega, show (own * 1000 + i) % 1000 = i by omega] at k2
  have s1 := List.forall_mem_cons.mp hs
  have kn : inI n := s1.1
  have h4 := hH.1
  have hzz := zz_len (a := S.1) h4
  rw [hsh] at hzz
  simp only at hzz
  have hz1 := zz_up (n := S.1 + 1) (m := nx1) hx1
  have hz0 := zz_up (n := nx0) (m := S.1) hn
  have hlen := (sh_len S.1 h4).1
  rw [hsh] at hlen
  simp only at hlen
  have hlnn : lnn g S.1 = n := by unfold lnn; rw [if_neg (by omega), hsh]
  have hneg : ¬ Int32.ofInt n < 0 := fun z => by have := (lt32 kn inI_0).mp z; omega
  obtain ⟨kA', comp', r1, r2, r3, r4⟩ := (C.2.2.2.2.2.2.2.2.2.1 24 (by omega) (by omega)).2
  refine W.anew C.2.1 C.2.2.1 C.2.2.2.2.1 (C.word k2 rfl) (va_AO.use C.2.2.2.2.2.2.2.1.2.2.2) rfl hd (n := Int32.ofInt n) (rest := st.map (cv g)) rfl hneg (by rw [nn32 kn]; omega) (Nat.le_trans (by omega) hR.1) (Nat.le_trans (by rw [nn32 kn]; omega) hR.2) fun cA kA comp a1 a2 a3 a4 => ?_
  have ecA : cA = gA g 24 := Option.some.inj (a1.symm.trans r4)
  rw [nn32 kn]
  generalize hH1 : H.push ({ cls := cA, slots := Array.replicate n.toNat .null, vm := .none } : Cell) = H1
  have z1 : H1.size = H.size + 1 := by rw [← hH1, Array.size_push]
  have e1 : H1[H.size]? = some ({ cls := cA, slots := Array.replicate n.toNat .null, vm := .none } : Cell) := by rw [← hH1, Array.getElem?_push_size]
  have o1 : ∀ q : Nat, q < H.size → H1[q]? = H[q]? := fun q hq => by rw [← hH1, Array.getElem?_push, if_neg (Nat.ne_of_lt hq)]
  have hcr : CR g (S.1 + 1, sclr S.2 S.1) (hclr h S.1) H1 S.1 := by
    unfold CR
    rw [hsh]
    simp only
    rw [if_neg (by omega), hlnn]
    refine ⟨⟨_, by rw [C.2.2.2.2.2.2.1.1 _ h4, ← hH.2.1]; exact e1, by show cA = gK g S.1; rw [gK_4 h4, hsh]; exact ecA, AV_0, AZ.of (by simp) hn0, fun j hj => ?_⟩, fun j hj => ?_⟩
    · rw [Array.getElem?_replicate, if_pos hj]
      simp only [sval, akd, sclr_at]
      rfl
    · simp only [sok, akd, sclr_at]
      exact Or.inl rfl
  have hH1' := hH.push z1 o1 hcr
  have ho : okr (S.1 + 1, sclr S.2 S.1) 24 S.1 := Or.inr ⟨by omega, by show S.1 < S.1 + 1; omega, by rw [hsh]⟩
  have K := X H1 locs lr hH1' (hZ.push o1) hl hL (List.forall_mem_cons.mpr ⟨ho, fun v hv => okv_up (by show S.1 ≤ S.1 + 1; omega) (s1.2 v hv)⟩) (fun i v hv => okv_up (by show S.1 ≤ S.1 + 1; omega) (hkl i v hv)) (by show nx0 ≤ S.1 + 1; omega)
  rw [List.map_cons, stk_ref (show ((24, S.1) : Nat × Int).2 ≠ 0 by show S.1 ≠ 0; omega)] at K
  rw [C.2.2.2.2.2.2.1.1 _ h4, ← hH.2.1] at K
  exact W.widen (k := (S.1 + 1 - nx0).toNat) (n := zz (S.1 + 1) - zz nx0) (by omega) (by omega) K
theorem zt_gets {n : Nat} {a : Int} (C : Cx g own p s m args c cc nL) (hn0 : n < 1000) (hc : cps own n = some a) (hd : decode cc pc = .ok (.getstatic n, 3)) (X : LJ g p e R s m args below meth c nL nx0 Qe (pc + 3) ls (LR 20 a :: st) S h) : LJ g p e R s m args below meth c nL nx0 Qe pc ls st S h := by
  intro H locs lr hH hZ hl hL hs hkl hn
  have hG := gA_.get hc
  unfold GOk at hG
  rw [show (own * 1000 + n) / 1000 = own by omega, show (own * 1000 + n) % 1000 = n by omega] at hG
  have h4 := hH.1
  rcases hG with ⟨rfl, hw⟩ | ⟨rfl, hw⟩
  · obtain ⟨cf, kf, fi, f, a0, cell, h1, h2, h3, h4, h5, h6, h7, h8⟩ := hZ.1
    exact W.gets C.2.1 C.2.2.1 C.2.2.2.2.1 (C.word hw rfl) h1 h2 h3 h4 h5 (fun z => by rw [z] at h6; cases h6) h7 rfl hd (X H locs lr hH hZ hl hL (List.forall_mem_cons.mpr ⟨Or.inr ⟨by decide, by show (2 : Int) < S.1; omega, by decide⟩, hs⟩) hkl hn)
  · obtain ⟨cf, kf, fi, f, a0, cell, h1, h2, h3, h4, h5, h6, h7, h8⟩ := hZ.2
    exact W.gets C.2.1 C.2.2.1 C.2.2.2.2.1 (C.word hw rfl) h1 h2 h3 h4 h5 (fun z => by rw [z] at h6; cases h6) h7 rfl hd (X H locs lr hH hZ hl hL (List.forall_mem_cons.mpr ⟨Or.inr ⟨by decide, by show (3 : Int) < S.1; omega, by decide⟩, hs⟩) hkl hn)
theorem zt_obj {n v : Nat} {r : Nat × Int} (C : Cx g own p s m args c cc nL) (hRf : 1 ≤ R.frames) (hRl : 20 ≤ R.locals) (hn0 : n < 1000) (hc : cpo own n = some v) (h0 : r.2 ≠ 0) (hst : (st.map lcat).sum ≤ 8) (hd : decode cc pc = .ok (.invokespecial n, 3)) (X : LJ g p e R s m args below meth c nL nx0 Qe (pc + 3) ls st S h) : LJ g p e R s m args below meth c nL nx0 Qe pc ls (Sum.inr (Sum.inr r) :: st) S h := by
  intro H locs lr hH hZ hl hL hs hkl hn
  have s1 := List.forall_mem_cons.mp hs
  have hw := oA_.get hc
  unfold OOk at hw
  rw [show (own * 1000 + n) / 1000 = own by omega, show (own * 1000 + n) % 1000 = n by omega] at hw
  rw [List.map_cons, stk_ref h0]
  refine W.objInit C.2.1 C.2.2.1 C.2.2.2.2.1 (C.word hw rfl) (C.word in_obj.1 rfl) (C.word in_obj.2 rfl) rfl (by rw [C.2.2.2.1]; exact hL.1) rfl hd hRf ?_ (X H locs lr hH hZ hl hL s1.2 hkl hn)
  show 2 * 0 + ((st.map (cv g)).map fun v => v.category).sum + 12 ≤ R.locals
  rw [lcat_sum]
  omega
theorem zt_math {n k : Nat} {q : Nat × Nat × Nat × MI} {x y : Int} (C : Cx g own p s m args c cc nL) (hRf : 1 ≤ R.frames) (hRl : 23 ≤ R.locals) (hRc : (S.1 - nx0).toNat ≤ R.cells ∧ zz S.1 - zz nx0 ≤ R.slots) (hc : cpm own n = some (k, q)) (hst : (st.map lcat).sum ≤ 8) (hd : decode cc pc = .ok (.invokestatic n, 3)) :
    (k = 4 → LJ g p e R s m args below meth c nL nx0 Qe (pc + 3) ls (Sum.inl (max x y) :: st) S h → LJ g p e R s m args below meth c nL nx0 Qe pc ls (Sum.inl y :: Sum.inl x :: st) S h) ∧
    (k = 5 → LJ g p e R s m args below meth c nL nx0 Qe (pc + 3) ls (Sum.inl (min x y) :: st) S h → LJ g p e R s m args below meth c nL nx0 Qe pc ls (Sum.inl y :: Sum.inl x :: st) S h) ∧
    (k = 6 → LJ g p e R s m args below meth c nL nx0 Qe (pc + 3) ls (Sum.inr (Sum.inl (max x y)) :: st) S h → LJ g p e R s m args below meth c nL nx0 Qe pc ls (Sum.inr (Sum.inl y) :: Sum.inr (Sum.inl x) :: st) S h) ∧
    (k = 7 → LJ g p e R s m args below meth c nL nx0 Qe (pc + 3) ls (Sum.inr (Sum.inl (if 0 < x then x else w64 (-x))) :: st) S h → LJ g p e R s m args below meth c nL nx0 Qe pc ls (Sum.inr (Sum.inl x) :: st) S h) := by
  have hq := cpm_ok C.1 hc
  obtain ⟨m1, m2, m3, m4, m5⟩ := in_math
  refine ⟨?_, ?_, ?_, ?_⟩
  · rintro rfl X H locs lr hH hZ hl hL hs hkl hn
    have s1 := List.forall_mem_cons.mp hs
    have s2 := List.forall_mem_cons.mp s1.2
    have kx : inI x := s2.1
    have ky : inI y := s1.1
    have hm : inI (max x y) := ⟨by have := kx.1; omega, by have := kx.2; have := ky.2; omega⟩
    refine va_mmax C.2.1 C.2.2.1 (by rw [C.2.2.2.1]; exact hL.1.symm) C.2.2.2.2.1 (C.word hq rfl) (C.word m1.1 rfl) (C.word m5 rfl) (C.word m1.2 rfl) hRf (by rw [lcat_sum]; omega) hRc.1 hRc.2 hd ?_
    have E : (if Int32.ofInt x < Int32.ofInt y then Int32.ofInt y else Int32.ofInt x) = Int32.ofInt (max x y) := by
      by_cases z : x < y
      · rw [if_pos ((lt32 kx ky).mpr z), show max x y = y by omega]
      · rw [if_neg (fun w => z ((lt32 kx ky).mp w)), show max x y = x by omega]
    rw [E]
    exact X H locs lr hH hZ hl hL (List.forall_mem_cons.mpr ⟨hm, s2.2⟩) hkl hn
  · rintro rfl X H locs lr hH hZ hl hL hs hkl hn
    have s1 := List.forall_mem_cons.mp hs
    have s2 := List.forall_mem_cons.mp s1.2
    have kx : inI x := s2.1
    have ky : inI y := s1.1
    have hm : inI (min x y) := ⟨by have := kx.1; have := ky.1; omega, by have := kx.2; omega⟩
    refine va_mmin C.2.1 C.2.2.1 (by rw [C.2.2.2.1]; exact hL.1.symm) C.2.2.2.2.1 (C.word hq rfl) (C.word m2.1 rfl) (C.word m5 rfl) (C.word m2.2 rfl) hRf (by rw [lcat_sum]; omega) hRc.1 hRc.2 hd ?_
    have E : (if Int32.ofInt y < Int32.ofInt x then Int32.ofInt y else Int32.ofInt x) = Int32.ofInt (min x y) := by
      by_cases z : y < x
      · rw [if_pos ((lt32 ky kx).mpr z), show min x y = y by omega]
      · rw [if_neg (fun w => z ((lt32 ky kx).mp w)), show min x y = x by omega]
    rw [E]
    exact X H locs lr hH hZ hl hL (List.forall_mem_cons.mpr ⟨hm, s2.2⟩) hkl hn
  · rintro rfl X H locs lr hH hZ hl hL hs hkl hn
    have s1 := List.forall_mem_cons.mp hs
    have s2 := List.forall_mem_cons.mp s1.2
    have kx : inL x := s2.1
    have ky : inL y := s1.1
    have hm : inL (max x y) := ⟨by have := kx.1; omega, by have := kx.2; have := ky.2; omega⟩
    refine va_mmax_long C.2.1 C.2.2.1 (by rw [C.2.2.2.1]; exact hL.1.symm) C.2.2.2.2.1 (C.word hq rfl) (C.word m3.1 rfl) (C.word m5 rfl) (C.word m3.2 rfl) hRf (by rw [lcat_sum]; omega) hRc.1 hRc.2 hd ?_
    have E : (if Int64.ofInt y < Int64.ofInt x then Int64.ofInt x else Int64.ofInt y) = Int64.ofInt (max x y) := by
      by_cases z : y < x
      · rw [if_pos ((lt64 ky kx).mpr z), show max x y = x by omega]
      · rw [if_neg (fun w => z ((lt64 ky kx).mp w)), show max x y = y by omega]
    rw [E]
    exact X H locs lr hH hZ hl hL (List.forall_mem_cons.mpr ⟨hm, s2.2⟩) hkl hn
  · rintro rfl X H locs lr hH hZ hl hL hs hkl hn
    have s1 := List.forall_mem_cons.mp hs
    have kx : inL x := s1.1
    refine va_mabs_long C.2.1 C.2.2.1 (by rw [C.2.2.2.1]; exact hL.1.symm) C.2.2.2.2.1 (C.word hq rfl) (C.word m4.1 rfl) (C.word m5 rfl) (C.word m4.2 rfl) hRf (by rw [lcat_sum]; omega) hRc.1 hRc.2 hd ?_
    have k0 : inL 0 := ⟨by decide, by decide⟩
    have E : (if 0 < Int64.ofInt x then Int64.ofInt x else -Int64.ofInt x) = Int64.ofInt (if 0 < x then x else w64 (-x)) := by
      by_cases z : 0 < x
      · rw [if_pos (show (0 : Int64) < Int64.ofInt x from (lt64 k0 kx).mpr z), if_pos z]
      · rw [if_neg (show ¬ (0 : Int64) < Int64.ofInt x from fun w => z ((lt64 k0 kx).mp w)), if_neg z, o64, Int64.ofInt_neg]
    rw [E]
    refine X H locs lr hH hZ hl hL (List.forall_mem_cons.mpr ⟨?_, s1.2⟩) hkl hn
    show inL _
    split
    · exact kx
    · exact inL_w _
theorem zt_cpy {n v : Nat} {q r : Nat × Int} {sp dp k : Int} (C : Cx g own p s m args c cc nL) (hRf : 1 ≤ R.frames) (hRl : 20 ≤ R.locals) (hn0 : n < 1000) (hc : cpa own n = some v) (hq : q.1 = 20) (hr : r.1 = 20) (hq4 : 4 ≤ q.2) (hr4 : 4 ≤ r.2) (h1 : 0 ≤ sp) (h2 : 0 ≤ dp) (h3 : 0 ≤ k) (h4 : sp + k ≤ lnn g q.2) (h5 : dp + k ≤ lnn g r.2) (hd : decode cc pc = .ok (.invokestatic n, 3)) (X : LJ g p e R s m args below meth c nL nx0 Qe (pc + 3) ls [] S (hcpy h q.2 sp r.2 dp k)) : LJ g p e R s m args below meth c nL nx0 Qe pc ls [Sum.inl k, Sum.inl dp, Sum.inr (Sum.inr r), Sum.inl sp, Sum.inr (Sum.inr q)] S h := by
  intro H locs lr hH hZ hl hL hs hkl hn
  have s1 := List.forall_mem_cons.mp hs
  have s2 := List.forall_mem_cons.mp s1.2
  have s3 := List.forall_mem_cons.mp s2.2
  have s4 := List.forall_mem_cons.mp s3.2
  have s5 := List.forall_mem_cons.mp s4.2
  have kk : inI k := s1.1
  have kd : inI dp := s2.1
  have ks : inI sp := s4.1
  have ho1 : okr S r.1 r.2 := s3.1
  have ho2 : okr S q.1 q.2 := s5.1
  rw [hr] at ho1
  rw [hq] at ho2
  obtain ⟨cd, d1, da, d2, d3, d4, d5, d6, od⟩ := CR.arr C hH (by omega) (by omega) (show r.2 ≠ 0 by omega) ho1
  obtain ⟨cs, b1, ba, b2, b3, b4, b5, b6, os⟩ := CR.arr C hH (by omega) (by omega) (show q.2 ≠ 0 by omega) ho2
  have hw := aA_.get hc
  unfold AOk at hw
  rw [show (own * 1000 + n) / 1000 = own by omega, show (own * 1000 + n) % 1000 = n by omega] at hw
  obtain ⟨-, ka, hka, cma, hkka⟩ := da
  obtain ⟨-, kb, hkb, cmb, hkkb⟩ := ba
  have neg : ∀ z : Int, inI z → 0 ≤ z → ¬ Int32.ofInt z < 0 := fun z i z0 w => by have := (lt32 i inI_0).mp w; omega
  have hlen : lnn g q.2 = ((cs.slots.size : Nat) : Int) ∧ lnn g r.2 = ((cd.slots.size : Nat) : Int) := ⟨by rw [b4.2.2 hq4]; omega, by rw [d4.2.2 hr4]; omega⟩
  rw [List.map_cons, List.map_cons, List.map_cons, List.map_cons, List.map_cons, stk_ref (show r.2 ≠ 0 by omega), stk_ref (show q.2 ≠ 0 by omega), List.map_nil]
  intro T hT XS
  obtain ⟨vm', X', step⟩ := XS.arraycopy C.2.1 C.2.2.2.2.1 (C.word hw rfl) (C.word in_cpy.1 rfl) (C.word in_cpy.2.1 rfl) (C.word in_cpy.2.2 rfl) (src := gR g q.2) (dst := gR g r.2) (cs := cs) (cd := cd) (srcPos := Int32.ofInt sp) (destPos := Int32.ofInt dp) (n := Int32.ofInt k) (by rw [hT]; exact b1) (by rw [hT]; exact d1)
    b3.2.1 d3.2.1 b3.1 d3.1 hkb hka hkkb hkka (by rfl) (neg _ ks h1) (neg _ kd h2) (neg _ kk h3)
    (by rw [t32 ks, t32 kk]; omega) (by rw [t32 kd, t32 kk]; omega)
    (fun vm₁ _ i hi => by
      rw [nn32 kk] at hi
      have ev : cs.slots.getD ((Int32.ofInt sp).toNatClampNeg + i) .null = .int (Int32.ofInt (h q.2 ((sp.toNat + i : Nat) : Int))) := by
        rw [nn32 ks, Array.getD_eq_getD_getElem?, b5 _ (by omega)]
        rfl
      rw [ev]
      exact ⟨rfl, trivial⟩)
    (g := F0 m pc lr [.int (Int32.ofInt k), .int (Int32.ofInt dp), .ref (gR g r.2), .int (Int32.ofInt sp), .ref (gR g q.2)]) rfl (by rw [C.2.2.2.1]; exact hL.1) (rest := []) rfl (by rw [C.2.2.1]; exact hd) hRf (by show 2 * 0 + 0 + (7 + 11) ≤ R.locals; omega)
  have hlr : gR g r.2 < H.size := (Array.getElem?_eq_some_iff.mp d1).1
  generalize hH1 : ((T.setVm vm').setCell (gR g r.2) (copied cs cd (Int32.ofInt sp) (Int32.ofInt dp) (Int32.ofInt k))).heap = H1
  have hheap : H1 = H.setIfInBounds (gR g r.2) (copied cs cd (Int32.ofInt sp) (Int32.ofInt dp) (Int32.ofInt k)) := by rw [← hH1, ← hT]; rfl
  have z1 : H1.size = H.size := by rw [hheap]; simp
  have o1 : ∀ x : Nat, x ≠ gR g r.2 → H1[x]? = H[x]? := fun x hx => by rw [hheap]; simp [Array.getElem?_setIfInBounds, Ne.symm hx]
  have e1 : H1[gR g r.2]? = some (copied cs cd (Int32.ofInt sp) (Int32.ofInt dp) (Int32.ofInt k)) := by rw [hheap]; simp [Array.getElem?_setIfInBounds, hlr]
  have hf := Cell.storeRun_facts cd (Int32.ofInt dp).toNatClampNeg (cs.stretch (Int32.ofInt sp).toNatClampNeg (Int32.ofInt k).toNatClampNeg)
  have hcr : CR g S (hcpy h q.2 sp r.2 dp k) H1 r.2 := by
    unfold CR
    rw [od.2.2, if_neg (by omega)]
    refine ⟨⟨_, e1, hf.1.trans d2, Eq.mpr (congrArg (fun v => AV v r.2) hf.2.1) d3, AZ.of (hf.2.2.1.trans (d4.2.2 hr4)) (by omega), fun j hj => ?_⟩, fun j hj => ?_⟩
    · rw [Cell.storeRun_get _ _ _ _ (by rw [Cell.stretch_length, nn32 kd, nn32 kk]; omega), Cell.stretch_length, nn32 kd, nn32 kk, nn32 ks]
      by_cases z : dp.toNat ≤ j ∧ j < dp.toNat + k.toNat
      · rw [if_pos z]
        unfold Cell.stretch
        rw [List.getElem?_map, List.getElem?_range (by omega)]
        simp only [Option.map_some]
        rw [Array.getD_eq_getD_getElem?, b5 _ (by omega)]
        simp only [Option.getD_some, sval, akd, hcpy]
        rw [if_pos ⟨trivial, by omega, by omega⟩]
        congr 3
        congr 1
        omega
      · rw [if_neg z, d5 j hj]
        simp only [sval, akd, hcpy]
        rw [if_neg (fun w => z ⟨by omega, by omega⟩)]
    · simp only [sok, akd, hcpy]
      by_cases z : dp ≤ (j : Int) ∧ (j : Int) < dp + k
      · rw [if_pos ⟨trivial, z.1, z.2⟩]
        have := b6 (sp.toNat + (j - dp.toNat)) (by omega)
        simp only [sok, akd] at this
        rw [show sp + ((j : Int) - dp) = ((sp.toNat + (j - dp.toNat) : Nat) : Int) by omega]
        exact this
      · rw [if_neg (fun w => z ⟨w.2.1, w.2.2⟩)]
        exact d6 j hj
  have hne : ∀ b i, b ≠ r.2 → hcpy h q.2 sp r.2 dp k b i = h b i := fun b i hb => by
    unfold hcpy
    rw [if_neg (fun z => hb z.1)]
  obtain ⟨t, a1, a2⟩ := X H1 _ lr (hH.set C.2.2.2.2.2.2.1 hr4 rfl hne (fun _ _ _ _ => rfl) z1 o1 hcr) (hZ.set C.2.2.2.2.2.2.1 hr4 o1) (fun y hy => by
      rcases List.mem_append.mp hy with z | z
      · exact hl y z
      · obtain ⟨w, -, hw'⟩ := List.mem_map.mp z
        rw [← hw']
        show gB g ≤ gR g r.2
        rw [C.2.2.2.2.2.2.1.1 _ hr4]
        omega) hL (fun v hv => by cases hv) hkl hn _ hH1 X'
  exact ⟨t, step t a1, a2⟩
end NEW
