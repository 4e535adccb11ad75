/-! TREES, pure: what is read as a tree; a tree with a part replaced -/
def rsT (L : NL) (r : Rs) : Prop := r.1 = 0 → ∃ T : NL, r.2.2 = L ++ T ∧ ∀ x ∈ T, x 0 = 0 ∨ x 0 = 1
theorem rsT_bad {f p : Int} {L L' : NL} (h : f ≠ 0) : rsT L (f, p, L') := fun z => absurd z h
theorem rsT_one {p : Int} {L : NL} {x : Nd} (h : x 0 = 0 ∨ x 0 = 1) : rsT L (0, p, L ++ [x]) := fun _ => ⟨[x], rfl, fun y hy => by rw [List.mem_singleton.mp hy]; exact h⟩
theorem rdP_tr {B : Int → Int} {n : Int} {rd : Int → NL → Rs} (hrd : ∀ (p : Int) (L : NL), rsT L (rd p L)) : ∀ (k : Nat) (p : Int) (L : NL), rsT L (rdP B n rd k p L)
  | 0, p, L => fun _ => ⟨[], by simp [rdP], by simp⟩
  | k + 1, p, L => by
    unfold rdP
    split
    · rename_i c
      exact fun z => absurd z c
    · rename_i c
      obtain ⟨T, e, o⟩ := hrd p L (Classical.byContradiction c)
      split
      · intro z
        obtain ⟨T2, e2, o2⟩ := rdP_tr hrd k (bl B n (rd p L).2.1 + 1) (rd p L).2.2 z
        refine ⟨T ++ T2, by rw [e2, e, List.append_assoc], fun x hx => ?_⟩
        rcases List.mem_append.mp hx with z | z
        · exact o x z
        · exact o2 x z
      · intro z
        simp only at z
        split at z <;> exact absurd z (by decide)
theorem rdN_tr {E : Ev} {B : Int → Int} {n mo : Int} : ∀ (f w : Nat) (p : Int) (L : NL), rsT L (rdN E B n false mo f w p L)
  | 0, w, p, L => rsT_bad (by decide)
  | f + 1, w, p, L => by
    unfold rdN
    split
    · split
      · exact rsT_bad (by decide)
      · split
        · exact rsT_bad (by decide)
        · split
          · split
            · exact rsT_bad (by decide)
            · split
              · exact rsT_bad (by decide)
              · intro z
                obtain ⟨T, e, o⟩ := rdP_tr (fun p L => rdN_tr f (w + 1) p L) _ _ _ z
                refine ⟨hdN E (byt B n (bl B n p) - 97) :: T, by rw [e, List.append_assoc]; rfl, fun y hy => ?_⟩
                rcases List.mem_cons.mp hy with rfl | z
                · exact Or.inl rfl
                · exact o y z
          · split
            · exact rsT_bad (by decide)
            · exact rsT_one (Or.inl rfl)
    · split
      · split
        · exact rsT_bad (by decide)
        · split
          · exact rsT_bad (by decide)
          · split
            · rename_i c
              exact rsT_bad c
            · exact rsT_one (Or.inr rfl)
      · rw [if_neg (by simp), if_neg (by simp), if_neg (by simp)]
        exact rsT_bad (by decide)
theorem rdA_tr {E : Ev} {B : Int → Int} {n mo : Int} : rsT [] (rdA E B n false mo) := by
  unfold rdA
  split
  · exact rdN_tr 13 0 0 []
  · split
    · exact rsT_bad (by decide)
    · exact rdN_tr 13 0 0 []
/-- a tree that may be: none, or one -/
def okT (E : Ev) (T : NL) : Prop := okL E T ∧ (T = [] ∨ wf T 1) ∧ ln T ≤ 120 ∧ ∀ i : Int, 0 ≤ i → i < ln T → nd T i 0 = 0 ∨ nd T i 0 = 1
theorem nd_mem {L : NL} {i : Int} (h0 : 0 ≤ i) (h1 : i < ln L) : nd L i ∈ L := by
  unfold ln at h1
  unfold nd
  rw [List.getD_eq_getElem?_getD, List.getElem?_eq_getElem (by omega)]
  exact List.getElem_mem _
/-- what is read as a tree of mo nodes at most -/
theorem rdA_okT {E : Ev} {B : Int → Int} {n mo : Int} (ok : okE E) (hn : 0 ≤ n) (hm : 0 ≤ mo) (hm2 : mo ≤ 120) (z : (rdA E B n false mo).1 = 0) : okT E (rdA E B n false mo).2.2 ∧ wf (rdA E B n false mo).2.2 1 ∧ ln (rdA E B n false mo).2.2 ≤ mo := by
  have r := rdA_ok (B := B) (n := n) (ip := false) (mo := mo) ok hn hm
  obtain ⟨T, e, w, o, l⟩ := r.2.2.2.2 z
  obtain ⟨T2, e2, o2⟩ := rdA_tr (E := E) (B := B) (n := n) (mo := mo) z
  rw [List.nil_append] at e l e2
  rw [e]
  rw [e] at e2
  subst e2
  exact ⟨⟨fun i i0 i1 => o _ (nd_mem i0 i1), Or.inr w, by omega, fun i i0 i1 => o2 _ (nd_mem i0 i1)⟩, w, l⟩
theorem rdA_okP {E : Ev} {B : Int → Int} {n mo : Int} {ip : Bool} (ok : okE E) (hn : 0 ≤ n) (hm : 0 ≤ mo) (z : (rdA E B n ip mo).1 = 0) : okL E (rdA E B n ip mo).2.2 ∧ wf (rdA E B n ip mo).2.2 1 ∧ ln (rdA E B n ip mo).2.2 ≤ mo := by
  have r := rdA_ok (B := B) (n := n) (ip := ip) (mo := mo) ok hn hm
  obtain ⟨T, e, w, o, l⟩ := r.2.2.2.2 z
  rw [List.nil_append] at e l
  rw [e]
  exact ⟨fun i i0 i1 => o _ (nd_mem i0 i1), w, l⟩
theorem wf_take : ∀ {L : NL} {j k : Nat}, wf L (j + k) → wf (L.take (tl L j)) j
  | [], j, k, h => by
    have h : j + k = 0 := h
    have : j = 0 := by omega
    subst this
    simp [wf]
  | x :: L, 0, k, h => by rw [tl_0]; rfl
  | x :: L, j + 1, k, h => by
    rw [show j + 1 + k = j + k + 1 by omega] at h
    have h : wf L ((x 7).toNat + (j + k)) := h
    rw [show (x 7).toNat + (j + k) = (x 7).toNat + j + k by omega] at h
    have := wf_take (L := L) h
    simp only [tl]
    rw [show 1 + tl L ((x 7).toNat + j) = tl L ((x 7).toNat + j) + 1 by omega, List.take_succ_cons]
    exact this
/-- a tree cut into what is ahead, a node with all below, what is behind -/
theorem cut3 {T : NL} {k : Nat} (w : wf T k) {i : Int} (i0 : 0 ≤ i) (i1 : i < ln T) : T = T.take i.toNat ++ (T.drop i.toNat).take (sz T i).toNat ++ T.drop (i.toNat + (sz T i).toNat) ∧ wf ((T.drop i.toNat).take (sz T i).toNat) 1 := by
  have e : (sz T i).toNat = tl (T.drop i.toNat) 1 := by unfold sz; omega
  constructor
  · rw [List.append_assoc, ← List.drop_drop, List.take_append_drop, List.take_append_drop]
  · rw [e]
    unfold ln at i1
    obtain ⟨m, hm⟩ := wf_drop i.toNat w (by omega)
    have : ∃ m', m = 1 + m' := by
      match m, hm with
      | 0, hm =>
        exfalso
        rw [List.drop_eq_getElem_cons (by omega)] at hm
        exact hm.elim
      | m + 1, _ => exact ⟨m, by omega⟩
    obtain ⟨m', rfl⟩ := this
    exact wf_take hm
theorem rpl_all {T D : NL} : rpl T D 0 (ln T) = D := by
  unfold rpl ln
  simp
theorem wf_rpl {T D : NL} (w : wf T 1) (wd : wf D 1) {i : Int} (i0 : 0 ≤ i) (i1 : i < ln T) : wf (rpl T D i (sz T i)) 1 := by
  obtain ⟨e, wb⟩ := cut3 w i0 i1
  have w' := w
  rw [e] at w'
  unfold rpl
  exact wf_swap _ 1 wb wd w'
theorem okL_rpl {E : Ev} {T D : NL} (ol : okL E T) (od : okL E D) {f g : Int} (f0 : 0 ≤ f) (g0 : 0 ≤ g) (h : f + g ≤ ln T) : okL E (rpl T D f g) := by
  intro i i0 i1
  rw [ln_rpl f0 g0 h] at i1
  rw [nd_rpl f0 g0 h i0]
  split
  · exact ol i i0 (by omega)
  · split
    · exact od _ (by omega) (by omega)
    · exact ol _ (by omega) (by omega)
theorem okT_rpl {E : Ev} {T D : NL} (ot : okT E T) (w : wf T 1) (od : okT E D) (wd : wf D 1) {i : Int} (i0 : 0 ≤ i) (i1 : i < ln T) (hl : ln D ≤ 120 - ln T + sz T i) : okT E (rpl T D i (sz T i)) := by
  have s0 := sz_pos i0 i1
  have s1 := sz_le i0 i1
  refine ⟨okL_rpl ot.1 od.1 i0 (by omega) s1, Or.inr (wf_rpl w wd i0 i1), by rw [ln_rpl i0 (by omega) s1]; omega, fun k k0 k1 => ?_⟩
  rw [ln_rpl i0 (by omega) s1] at k1
  rw [nd_rpl i0 (by omega) s1 k0]
  split
  · exact ot.2.2.2 k k0 (by omega)
  · split
    · exact od.2.2.2 _ (by omega) (by omega)
    · exact ot.2.2.2 _ (by omega) (by omega)
/-- sizes of a tree with a part replaced -/
theorem sz_rpl {T D : NL} (w : wf T 1) (wd : wf D 1) {i : Int} (i0 : 0 ≤ i) (i1 : i < ln T) {k : Int} (k0 : 0 ≤ k) (k1 : k < ln T - sz T i + ln D) : sz (rpl T D i (sz T i)) k = if k < i then (if k + sz T k ≤ i then sz T k else sz T k - sz T i + ln D) else if k < i + ln D then sz D (k - i) else sz T (k - ln D + sz T i) := by
  have s0 := sz_pos i0 i1
  have s1 := sz_le i0 i1
  obtain ⟨e, wb⟩ := cut3 w i0 i1
  have lb : ((T.drop i.toNat).take (sz T i).toNat).length = (sz T i).toNat := by
    rw [List.length_take, List.length_drop]
    unfold ln at s1 i1
    omega
  have lt : (T.take i.toNat).length = i.toNat := by
    rw [List.length_take]
    unfold ln at i1
    omega
  by_cases c1 : k < i
  · rw [if_pos c1]
    have hd : ∀ X : NL, (T.take i.toNat ++ X).drop k.toNat = (T.take i.toNat).drop k.toNat ++ X := fun X => by rw [List.drop_append_of_le_length (by omega)]
    have key := tl_swap ((T.take i.toNat).drop k.toNat) (C := T.drop (i.toNat + (sz T i).toNat)) 1 wb wd
    have e1 : tl ((T.take i.toNat).drop k.toNat ++ (T.drop i.toNat).take (sz T i).toNat ++ T.drop (i.toNat + (sz T i).toNat)) 1 = tl (T.drop k.toNat) 1 := by
      rw [List.append_assoc, ← hd, ← List.append_assoc, ← e]
    have e2 : tl ((T.take i.toNat).drop k.toNat ++ D ++ T.drop (i.toNat + (sz T i).toNat)) 1 = tl ((rpl T D i (sz T i)).drop k.toNat) 1 := by
      unfold rpl
      rw [List.append_assoc, ← hd, ← List.append_assoc]
    rw [e1, e2, lb, List.length_drop, lt] at key
    have ge := sz_pos (L := T) k0 (by omega)
    show ((tl ((rpl T D i (sz T i)).drop k.toNat) 1 : Nat) : Int) = _
    rw [key]
    have hs : sz T k = (tl (T.drop k.toNat) 1 : Nat) := rfl
    by_cases c2 : k + sz T k ≤ i
    · rw [if_pos c2, if_pos (by omega)]
      exact hs.symm
    · rw [if_neg c2, if_neg (by omega)]
      have := sz_swap_ge w i0 i1 k0 c1 c2
      unfold ln
      omega
  · rw [if_neg c1]
    have hd : ∀ X : NL, (T.take i.toNat ++ X).drop k.toNat = X.drop (k - i).toNat := fun X => by
      rw [List.drop_append, List.drop_eq_nil_of_le (by omega), List.nil_append, lt, show k.toNat - i.toNat = (k - i).toNat by omega]
    have e1 : (rpl T D i (sz T i)).drop k.toNat = (D ++ T.drop (i.toNat + (sz T i).toNat)).drop (k - i).toNat := by
      unfold rpl
      rw [List.append_assoc, hd]
    by_cases c2 : k < i + ln D
    · rw [if_pos c2]
      unfold ln at c2
      show ((tl ((rpl T D i (sz T i)).drop k.toNat) 1 : Nat) : Int) = ((tl (D.drop (k - i).toNat) 1 : Nat) : Int)
      rw [e1, List.drop_append_of_le_length (by omega)]
      obtain ⟨m, hm⟩ := wf_drop (k - i).toNat wd (by omega)
      have : 1 ≤ m := by
        match m, hm with
        | 0, hm =>
          exfalso
          rw [List.drop_eq_getElem_cons (by omega)] at hm
          exact hm.elim
        | m + 1, _ => omega
      rw [tl_pre hm this]
    · rw [if_neg c2]
      unfold ln at c2 k1 i1
      have c0 : 0 ≤ k - (ln D) := by unfold ln; omega
      show ((tl ((rpl T D i (sz T i)).drop k.toNat) 1 : Nat) : Int) = ((tl (T.drop (k - ln D + sz T i).toNat) 1 : Nat) : Int)
      rw [e1, List.drop_append, List.drop_eq_nil_of_le (by omega), List.nil_append, List.drop_drop, show i.toNat + (sz T i).toNat + ((k - i).toNat - D.length) = (k - ln D + sz T i).toNat by unfold ln; omega]
where
  sz_swap_ge {T : NL} {i : Int} (w : wf T 1) (i0 : 0 ≤ i) (i1 : i < ln T) {k : Int} (k0 : 0 ≤ k) (k1 : k < i) (c : ¬ k + sz T k ≤ i) : i + sz T i ≤ k + sz T k := sz_sub k0 (by omega) (by omega) (by omega)
