/-! PRINTING, pure: st, of each open head how many parts are due -/
def nmT (x : Nd) : Tx := if x 3 = -1 then [] else [48 + x 3]
def kdT (x : Nd) : Tx := if x 2 = 0 then [] else 58 :: numT (x 2)
def spT (x : Nd) : Tx := if x 4 = 0 then [] else 91 :: (numT (x 5) ++ 126 :: (numT (x 6) ++ [93]))
def nt (x : Nd) : Tx := if x 0 = 0 then [97 + x 1] else if x 0 = 1 then numT (x 5) else if x 0 = 2 then 63 :: (nmT x ++ (kdT x ++ spT x)) else if x 0 = 3 then [46, 46] else [33]
def shut : List Nat → Tx × List Nat
  | [] => ([], [])
  | k :: s => if k ≤ 1 then (41 :: (shut s).1, (shut s).2) else ([44], (k - 1) :: s)
def prF (L : NL) : Nat → Int → List Nat → Tx
  | 0, _, _ => []
  | m + 1, i, st => nt (nd L i) ++ (if 0 < nd L i 7 then (if nd L i 0 = 0 then 40 :: prF L m (i + 1) ((nd L i 7).toNat :: st) else prF L m (i + 1) st) else (shut st).1 ++ prF L m (i + 1) (shut st).2)
def prT (L : NL) (f : Int) : Tx := prF L (sz L f).toNat f []
theorem shut_l : ∀ st : List Nat, (shut st).1.length + (shut st).2.length ≤ st.length + 1
  | [] => by decide
  | k :: s => by
    have := shut_l s
    unfold shut
    split
    · simp only [List.length_cons]; omega
    · simp only [List.length_cons, List.length_nil]; omega
theorem nmT_l (x : Nd) : (nmT x).length ≤ 1 := by unfold nmT; split <;> simp
theorem kdT_l (x : Nd) : (kdT x).length ≤ 20 := by
  have := numT_l (v := x 2)
  unfold kdT
  split
  · simp
  · simp only [List.length_cons]; omega
theorem spT_l (x : Nd) : (spT x).length ≤ 41 := by
  have := numT_l (v := x 5)
  have := numT_l (v := x 6)
  unfold spT
  split
  · simp
  · simp only [List.length_cons, List.length_append, List.length_nil]; omega
theorem nt_l (x : Nd) : (nt x).length ≤ 63 := by
  have := numT_l (v := x 5)
  have := nmT_l x
  have := kdT_l x
  have := spT_l x
  unfold nt
  split
  · simp
  · split
    · omega
    · split
      · simp only [List.length_cons, List.length_append]; omega
      · split <;> simp
theorem nt_lt {x : Nd} (z : x 0 = 0 ∨ x 0 = 1) : (nt x).length ≤ 19 := by
  have := numT_l (v := x 5)
  unfold nt
  split
  · simp
  · rw [if_pos (by omega)]; omega
/-- parts of a node end within it -/
theorem kd_mono {L : NL} {k : Nat} (w : wf L k) {i : Int} (i0 : 0 ≤ i) (i1 : i < ln L) : ∀ (m j : Nat), j + m = (nd L i 7).toNat → kd L i j + m ≤ i + sz L i
  | 0, j, hj => by
    have := sz_kd i0 i1
    rw [← hj] at this
    rw [Nat.add_zero] at this
    omega
  | m + 1, j, hj => by
    have a := kd_mono w i0 i1 m (j + 1) (by omega)
    have b := kd_lt w i0 i1 (j := j) (by omega)
    have c := kd_ge (L := L) (i := i) j
    have e := sz_pos (L := L) (i := kd L i j) (by omega) b
    rw [kd_s i0] at a
    omega
theorem kd_in {L : NL} {k : Nat} (w : wf L k) {i : Int} (i0 : 0 ≤ i) (i1 : i < ln L) {j : Nat} (hj : j < (nd L i 7).toNat) : kd L i j < i + sz L i := by
  have := kd_mono w i0 i1 ((nd L i 7).toNat - j) j (by omega)
  omega
theorem sz_two {L : NL} {k : Nat} (w : wf L k) {i : Int} (i0 : 0 ≤ i) (i1 : i < ln L) (z : 0 < nd L i 7) : ¬ sz L i = 1 := by
  have := kd_in w i0 i1 (j := 0) (by omega)
  rw [kd_0] at this
  omega
/-- x stands below f; st: of the heads over x how many parts are due, x among them -/
def up (L : NL) (f : Int) : Nat → Int → List Nat → Prop
  | 0, x, st => x = f ∧ st = []
  | m + 1, x, st => (x = f ∧ st = []) ∨ ∃ a : Int, f ≤ a ∧ a < x ∧ x < ln L ∧ ((nd L a 0 = 0 ∧ ∃ (k : Nat) (s : List Nat), st = k :: s ∧ 1 ≤ k ∧ k ≤ (nd L a 7).toNat ∧ x = kd L a ((nd L a 7).toNat - k) ∧ up L f m a s) ∨ (nd L a 0 ≠ 0 ∧ nd L a 7 = 1 ∧ x = kd L a 0 ∧ up L f m a st))
theorem up_z {L : NL} {f : Int} : ∀ m : Nat, up L f m f []
  | 0 => ⟨rfl, rfl⟩
  | _ + 1 => Or.inl ⟨rfl, rfl⟩
theorem up_b {L : NL} {f : Int} (f1 : f < ln L) : ∀ {m : Nat} {x : Int} {st : List Nat}, up L f m x st → f ≤ x ∧ x < ln L
  | 0, x, st, h => by obtain ⟨e, _⟩ := h; omega
  | m + 1, x, st, h => by
    rcases h with ⟨e, _⟩ | ⟨a, a0, a1, a2, _⟩
    · omega
    · omega
theorem up_head {L : NL} (w : wf L 1) {f : Int} (f0 : 0 ≤ f) (f1 : f < ln L) {m : Nat} {x : Int} {st : List Nat} (h : up L f m x st) (z : nd L x 0 = 0) (p : 0 < nd L x 7) : up L f (m + 1) (x + 1) ((nd L x 7).toNat :: st) := by
  have b := up_b f1 h
  have k := kd_lt w (i := x) (by omega) b.2 (j := 0) (by omega)
  have e := kd_0 (L := L) (i := x)
  exact Or.inr ⟨x, b.1, by omega, by omega, Or.inl ⟨z, (nd L x 7).toNat, st, rfl, by omega, Nat.le_refl _, by rw [Nat.sub_self, e], h⟩⟩
theorem up_over {L : NL} (w : wf L 1) {f : Int} (f0 : 0 ≤ f) (f1 : f < ln L) {m : Nat} {x : Int} {st : List Nat} (h : up L f m x st) (z : nd L x 0 ≠ 0) (p : nd L x 7 = 1) : up L f (m + 1) (x + 1) st := by
  have b := up_b f1 h
  have k := kd_lt w (i := x) (by omega) b.2 (j := 0) (by omega)
  have e := kd_0 (L := L) (i := x)
  exact Or.inr ⟨x, b.1, by omega, by omega, Or.inr ⟨z, p, e.symm, h⟩⟩
theorem up_shut {L : NL} (w : wf L 1) {f : Int} (f0 : 0 ≤ f) (f1 : f < ln L) {z : Int} : ∀ (m : Nat) (y : Int) (st : List Nat), up L f m y st → y + sz L y = z → z = f + sz L f ∨ ∃ m' : Nat, up L f m' z (shut st).2
  | 0, y, st, h, e => by
    obtain ⟨a, _⟩ := h
    rw [a] at e
    exact Or.inl e.symm
  | m + 1, y, st, h, e => by
    rcases h with ⟨a, _⟩ | ⟨a, a0, a1, a2, ⟨c, k, s, es, k1, k2, ey, u⟩ | ⟨c, p, ey, u⟩⟩
    · rw [a] at e
      exact Or.inl e.symm
    · have sk := sz_kd (L := L) (i := a) (by omega) (by omega)
      have ks := kd_s (L := L) (i := a) (by omega) ((nd L a 7).toNat - k)
      rw [← ey, e] at ks
      rw [es]
      by_cases k1' : k ≤ 1
      · rw [show (nd L a 7).toNat - k + 1 = (nd L a 7).toNat by omega, sk] at ks
        have := up_shut w f0 f1 (z := z) m a s u ks
        unfold shut
        rw [if_pos k1']
        exact this
      · unfold shut
        rw [if_neg k1']
        have lt := kd_lt w (i := a) (by omega) (by omega) (j := (nd L a 7).toNat - k + 1) (by omega)
        have sp := sz_pos (L := L) (i := y) (by omega) a2
        exact Or.inr ⟨m + 1, Or.inr ⟨a, a0, by omega, by omega, Or.inl ⟨c, k - 1, s, rfl, by omega, by omega, by rw [← ks, show (nd L a 7).toNat - (k - 1) = (nd L a 7).toNat - k + 1 by omega], u⟩⟩⟩
    · have sk := sz_kd (L := L) (i := a) (by omega) (by omega)
      have ks := kd_s (L := L) (i := a) (by omega) 0
      rw [← ey, e] at ks
      rw [p] at sk
      rw [show (1 : Int).toNat = 0 + 1 from rfl, ks] at sk
      exact up_shut w f0 f1 (z := z) m a st u sk.symm
/-! PRINTING, the class -/
section
variable {g : Gl} {d : Nat} {E : Ev} {L : NL} {Q : Hp → Prop}
def fr2 (h h' : Hp) : Prop := ∀ a : Int, a ≠ 12 → a ≠ 13 → h' a = h a
theorem fr2.tr {h h2 h3 : Hp} (a : fr2 h h2) (b : fr2 h2 h3) : fr2 h h3 := fun x x1 x2 => by rw [b x x1 x2]; exact a x x1 x2
theorem app3 {A B C : Tx} : A ++ B ++ C = A ++ (B ++ C) := List.append_assoc A B C
theorem c_hol2 {n c : Int} (nw : NDs g n c) (n9 : 14 ≤ n) (lc : ln L ≤ c) {W : Tx} {h : Hp} (cn : cN n L h) {i : Int} (i0 : 0 ≤ i) (i1 : i < ln L) (on : okN E (nd L i)) (ok : okE E) (s2 : nd L i 0 = 2) (H : cT W h) (l : W.length + 64 < 3000) (q : ∀ h' : Hp, cT (W ++ nt (nd L i)) h' → fr2 h h' → Q h') : Good g (d + 3) i11_writeHole [LR 5 n, LI i, LR 8 12] S0 h S0 (retV Q) := by
  obtain ⟨n0, n1, n2, n3, n4, n5, n6, n7, n8, n9'⟩ := id nw
  have o2 := ok.2.1
  have on' : 0 ≤ nd L i 2 ∧ nd L i 2 < E 0 0 ∧ -1 ≤ nd L i 3 ∧ nd L i 3 < 10 ∧ (nd L i 4 = 0 ∨ nd L i 4 = 1) ∧ -1000000000000000000 < nd L i 5 ∧ nd L i 5 < 1000000000000000000 ∧ -1000000000000000000 < nd L i 6 ∧ nd L i 6 < 1000000000000000000 := by rcases on with o | o | o | o <;> omega
  have ln1 := nmT_l (nd L i)
  have ln2 := kdT_l (nd L i)
  have rd : ∀ {h2 : Hp}, fr2 h h2 → h2 (n + 3) i = nd L i 2 ∧ h2 (n + 4) i = nd L i 3 ∧ h2 (n + 5) i = nd L i 4 ∧ h2 (n + 6) i = nd L i 5 ∧ h2 (n + 7) i = nd L i 6 := fun F => by
    have C := cn.2 i i0 i1
    rw [F (n + 3) (by omega) (by omega), F (n + 4) (by omega) (by omega), F (n + 5) (by omega) (by omega), F (n + 6) (by omega) (by omega), F (n + 7) (by omega) (by omega)]
    exact C.2.2
  unfold nt at q
  rw [if_neg (by omega), if_neg (by omega), if_pos s2] at q
  have st3 : ∀ (W3 : Tx) (h3 : Hp), W3.length + 42 < 3000 → cT W3 h3 → fr2 h h3 → W3 ++ spT (nd L i) = W ++ 63 :: (nmT (nd L i) ++ (kdT (nd L i) ++ spT (nd L i))) → L0 g (d + 2) m11_writeHole (retV Q) 55 [some (LR 5 n), some (LI i), some (LR 8 12)] h3 := by
    intro W3 h3 l3 H3 F3 e3
    rw [← e3] at q
    unfold spT at q
    refine v11_writeHole_55 n0 ?_
    rw [(rd F3).2.2.1, n5, n6, n7]
    refine ⟨i0, by omega, fun _ => ⟨fun z => ?_, fun z => c_put H3 (by omega) (by decide) (by decide) (fun h4 H4 F4 => ⟨by omega, ?_⟩)⟩⟩
    · rw [if_pos z, List.append_nil] at q
      exact q h3 H3 F3
    · rw [if_neg z] at q
      have l5 := numT_l (v := nd L i 5)
      have l6 := numT_l (v := nd L i 6)
      have F4 := F3.tr F4
      rw [(rd F4).2.2.2.1]
      refine c_num on'.2.2.2.2.2.1 on'.2.2.2.2.2.2.1 H4 (by rw [len1]; omega) (fun h5 H5 F5 => ?_)
      have F5 := F4.tr F5
      refine c_put (d := d + 1) H5 (by rw [List.length_append, len1]; omega) (by decide) (by decide) (fun h6 H6 F6 => ⟨by omega, ?_⟩)
      have F6 := F5.tr F6
      rw [(rd F6).2.2.2.2]
      refine c_num on'.2.2.2.2.2.2.2.1 on'.2.2.2.2.2.2.2.2 H6 (by rw [len1, List.length_append, len1]; omega) (fun h7 H7 F7 => ?_)
      refine c_put (d := d + 1) H7 (by rw [List.length_append, len1, List.length_append, len1]; omega) (by decide) (by decide) (fun h8 H8 F8 => q h8 ?_ ((F6.tr F7).tr F8))
      simp only [List.append_assoc, List.cons_append, List.nil_append] at H8 ⊢
      exact H8
  have st2 : ∀ (W2 : Tx) (h2 : Hp), W2.length + 62 < 3000 → cT W2 h2 → fr2 h h2 → W2 ++ (kdT (nd L i) ++ spT (nd L i)) = W ++ 63 :: (nmT (nd L i) ++ (kdT (nd L i) ++ spT (nd L i))) → L0 g (d + 2) m11_writeHole (retV Q) 29 [some (LR 5 n), some (LI i), some (LR 8 12)] h2 := by
    intro W2 h2 l2 H2 F2 e2
    refine v11_writeHole_29 n0 ?_
    rw [(rd F2).1, n3]
    refine ⟨i0, by omega, fun z => st3 W2 h2 (by omega) H2 F2 ?_, fun z => c_put H2 (by omega) (by decide) (by decide) (fun h3 H3 F3 => ?_)⟩
    · rw [← e2]
      unfold kdT
      rw [if_pos z, List.nil_append]
    · have F3 := F2.tr F3
      have lk := numT_l (v := nd L i 2)
      rw [(rd F3).1]
      refine c_num (by omega) (by omega) H3 (by rw [len1]; omega) (fun h4 H4 F4 => st3 _ h4 (by rw [List.length_append, len1]; omega) H4 (F3.tr F4) ?_)
      rw [← e2]
      unfold kdT
      rw [if_neg z]
      simp only [List.append_assoc, List.cons_append, List.nil_append]
  refine g11_writeHole (fun _ _ => v11_writeHole n0 (c_put H (by omega) (by decide) (by decide) (fun h2 H2 F2 => ?_)))
  rw [(rd F2).2.1, n4]
  refine ⟨i0, by omega, fun z => st2 _ h2 (by rw [len1]; omega) H2 F2 ?_, fun z => ?_⟩
  · unfold nmT
    rw [if_pos z]
    simp only [List.append_assoc, List.cons_append, List.nil_append]
  · rw [w32_id (by omega) (by omega)]
    refine c_put (d := d + 1) H2 (by rw [len1]; omega) (by omega) (by omega) (fun h3 H3 F3 => st2 _ h3 (by rw [len1, len1]; omega) H3 (fr2.tr F2 F3) ?_)
    unfold nmT
    rw [if_neg z]
    simp only [List.append_assoc, List.cons_append, List.nil_append]
theorem c_node {n c : Int} (nw : NDs g n c) (n9 : 14 ≤ n) (lc : ln L ≤ c) {W : Tx} {h : Hp} (cn : cN n L h) {i : Int} (i0 : 0 ≤ i) (i1 : i < ln L) (on : okN E (nd L i)) (ok : okE E) (H : cT W h) (l : W.length + 64 < 3000) (q : ∀ h' : Hp, cT (W ++ nt (nd L i)) h' → fr2 h h' → Q h') : Good g (d + 4) i11_writeNode [LR 5 n, LI i, LR 8 12] S0 h S0 (retV Q) := by
  obtain ⟨n0, n1, n2, n3, n4, n5, n6, n7, n8, n9'⟩ := id nw
  obtain ⟨c1, c2, c3, c4, c5, c6, c7⟩ := cn.2 i i0 i1
  have o4 := ok.2.2.2.1
  refine g11_writeNode (fun _ _ => v11_writeNode n0 ?_)
  rw [c1, c2, c6, n1, n2, n6]
  refine ⟨i0, by omega, fun z => ?_, fun z => ?_, fun z => ?_, fun z => ?_, fun z => ?_⟩
  · unfold nt at q
    rw [if_neg (by omega), if_neg (by omega), if_neg (by omega), if_neg (by omega)] at q
    exact c_put (d := d + 2) H (by omega) (by decide) (by decide) q
  · unfold nt at q
    rw [if_pos z] at q
    have h1 : 0 ≤ nd L i 1 ∧ nd L i 1 < 20 := by rcases on with o | o | o | o <;> omega
    rw [w32_id (by omega) (by omega)]
    exact ⟨by omega, c_put (d := d + 2) H (by omega) (by omega) (by omega) q⟩
  · unfold nt at q
    rw [if_neg (by omega), if_pos z] at q
    have h5 : -1000000000000000000 < nd L i 5 ∧ nd L i 5 < 1000000000000000000 := by rcases on with o | o | o | o <;> omega
    exact ⟨by omega, c_num (d := d + 1) h5.1 h5.2 H (by omega) q⟩
  · exact c_hol2 nw n9 lc cn i0 i1 on ok z H l q
  · unfold nt at q
    rw [if_neg (by omega), if_neg (by omega), if_neg (by omega), if_pos z] at q
    refine c_put (d := d + 2) H (by omega) (by decide) (by decide) (fun h2 H2 F2 => c_put (d := d + 2) H2 (by rw [len1]; omega) (by decide) (by decide) (fun h3 H3 F3 => q h3 ?_ (fr2.tr F2 F3)))
    rw [List.append_assoc] at H3
    exact H3
theorem c_behind {n c : Int} (nw : NDs g n c) (n9 : 14 ≤ n) (lc : ln L ≤ c) (lm : c ≤ 1000) {h : Hp} (cn : cN n L h) (cs : cS n L h) (par : ∀ i : Int, 0 ≤ i → i < ln L → isP L 0 i (h (n + 8) i)) (w : wf L 1) {f x : Int} (f0 : 0 ≤ f) (f1 : f < ln L) (x0 : 0 ≤ x) (x1 : x < ln L) : ∀ (m : Nat) (y : Int) (st : List Nat) (W : Tx) (h2 : Hp), up L f m y st → y + sz L y = x + 1 → cT W h2 → fr2 h h2 → W.length + st.length + 1 < 3000 → (∀ h' : Hp, cT (W ++ (shut st).1) h' → fr2 h h' → Q h') → L0 g (d + 1) m11_writeBehind (retV Q) 3 [some (LR 5 n), some (LI x), some (LI f), some (LR 8 12), some (LI y), none] h2 := by
  obtain ⟨n0, n1, n2, n3, n4, n5, n6, n7, n8, n9'⟩ := id nw
  have stop : ∀ (W : Tx) (h2 : Hp), cT W h2 → fr2 h h2 → (∀ h' : Hp, cT (W ++ (shut []).1) h' → fr2 h h' → Q h') → L0 g (d + 1) m11_writeBehind (retV Q) 3 [some (LR 5 n), some (LI x), some (LI f), some (LR 8 12), some (LI f), none] h2 := by
    intro W h2 H F q
    refine v11_writeBehind_3 n0 ⟨fun _ => q h2 ?_ F, fun z => absurd (Int.le_refl _) z⟩
    rw [show (shut []).1 = ([] : Tx) from rfl, List.append_nil]
    exact H
  intro m
  induction m with
  | zero =>
    intro y st W h2 u ey H F l q
    obtain ⟨a, b⟩ := u
    subst a
    subst b
    exact stop W h2 H F q
  | succ m ih =>
    intro y st W h2 u ey H F l q
    have yb := up_b f1 u
    rcases u with ⟨a, b⟩ | ⟨a, a0, a1, a2, A⟩
    · subst a
      subst b
      exact stop W h2 H F q
    · have al : a + sz L a ≤ ln L := sz_le (by omega) (by omega)
      have ap : 1 ≤ sz L a := sz_pos (by omega) (by omega)
      obtain ⟨jj, hj, ek⟩ : ∃ jj : Nat, jj < (nd L a 7).toNat ∧ y = kd L a jj := by
        rcases A with ⟨_, k, s, _, k1, k2, e, _⟩ | ⟨_, p, e, _⟩
        · exact ⟨_, by omega, e⟩
        · exact ⟨0, by omega, e⟩
      have ki := kd_in w (i := a) (by omega) (by omega) hj
      have pa : h (n + 8) y = a := by
        refine isP_u (par y (by omega) (by omega)) ?_
        rw [ek]
        rcases isP_kid (L := L) (y := a) (by omega) (by omega) ki with v | v
        · omega
        · exact Or.inr ⟨by omega, v.2⟩
      have sk := sz_kd (L := L) (i := a) (by omega) (by omega)
      have ks := kd_s (L := L) (i := a) (by omega) jj
      rw [← ek, ey] at ks
      refine v11_writeBehind_3 n0 ?_
      rw [F (n + 8) (by omega) (by omega), F (n + 9) (by omega) (by omega), F (n + 1) (by omega) (by omega), pa, cs a (by omega) (by omega), (cn.2 a (by omega) (by omega)).1, n1, n8, n9', w32_id (x := a + sz L a) (by omega) (by omega), w32_id (x := x + 1) (by omega) (by omega)]
      refine ⟨fun z => absurd z (by omega), fun _ => ⟨by omega, by omega, fun z => absurd z (by omega), fun _ => ⟨by omega, by omega, fun z => ⟨by omega, fun z2 => ?_, fun z2 => ?_⟩, fun z => ?_⟩⟩⟩
      · rcases A with ⟨c', k, s, es, k1, k2, e, u⟩ | ⟨c', p, e, u⟩
        · exact absurd c' z2
        · exact ih a st W h2 u z H F l q
      · rcases A with ⟨c', k, s, es, k1, k2, e, u⟩ | ⟨c', p, e, u⟩
        · have kj : jj + 1 = (nd L a 7).toNat := by
            apply Classical.byContradiction
            intro v
            have := kd_in w (i := a) (by omega) (by omega) (j := jj + 1) (by omega)
            omega
          have k1' : k ≤ 1 := by
            apply Classical.byContradiction
            intro v
            have h9 := kd_mono w (i := a) (by omega) (by omega) k ((nd L a 7).toNat - k) (by omega)
            have h8 := kd_s (L := L) (i := a) (by omega) ((nd L a 7).toNat - k)
            rw [← e, ey] at h8
            have := kd_in w (i := a) (by omega) (by omega) (j := (nd L a 7).toNat - k + 1) (by omega)
            omega
          rw [es] at q l
          unfold shut at q
          rw [if_pos k1'] at q
          simp only [List.length_cons] at l
          refine c_put H (by omega) (by decide) (by decide) (fun h3 H3 F3 => ih a s _ h3 u z H3 (F.tr F3) (by rw [len1]; omega) (fun h4 H4 F4 => q h4 ?_ F4))
          simp only [List.append_assoc, List.cons_append, List.nil_append] at H4 ⊢
          exact H4
        · exact absurd z2 c'
      · rcases A with ⟨c', k, s, es, k1, k2, e, u⟩ | ⟨c', p, e, u⟩
        · have k1' : ¬ k ≤ 1 := by
            intro v
            have h8 := kd_s (L := L) (i := a) (by omega) ((nd L a 7).toNat - k)
            rw [← e, ey, show (nd L a 7).toNat - k + 1 = (nd L a 7).toNat by omega, sk] at h8
            omega
          rw [es] at q l
          unfold shut at q
          rw [if_neg k1'] at q
          exact c_put H (by omega) (by decide) (by decide) (fun h3 H3 F3 => q h3 H3 (F.tr F3))
        · have h8 := kd_s (L := L) (i := a) (by omega) 0
          rw [← e, ey] at h8
          rw [p, show (1 : Int).toNat = 0 + 1 from rfl, h8] at sk
          omega
theorem cT_0 {h : Hp} : cT [] (hup h 12 1 0) := ⟨by rw [hup_at]; rfl, by decide, by decide, fun i i0 i1 => by
  have : ((([] : Tx).length : Nat) : Int) = 0 := rfl
  omega⟩
theorem c_write {Q : Int → Hp → Prop} {n c : Int} (nw : NDs g n c) (n9 : 14 ≤ n) (lc : ln L ≤ c) (lm : c ≤ 1000) {h : Hp} (cn : cN n L h) (cs : cS n L h) (par : ∀ i : Int, 0 ≤ i → i < ln L → isP L 0 i (h (n + 8) i)) (ok : okE E) (ol : okL E L) (w : wf L 1) {f : Int} (f0 : 0 ≤ f) (f1 : f < ln L) {K : Nat} (hK : ∀ i : Int, 0 ≤ i → i < ln L → (nt (nd L i)).length + 2 ≤ K) (hB : L.length * K ≤ 2900) (q : ∀ h' : Hp, cT (prT L f) h' → fr2 h h' → Q ((prT L f).length : Nat) h') : Good g (d + 5) i11_write [LR 5 n, LI f, LR 8 12] S0 h S0 (retI Q) := by
  obtain ⟨n0, n1, n2, n3, n4, n5, n6, n7, n8, n9'⟩ := id nw
  have fl := sz_le f0 f1
  have fp := sz_pos f0 f1
  have ll : ln L = (L.length : Nat) := rfl
  have lp : ∀ (m : Nat) (i : Int) (st : List Nat) (W : Tx) (h2 : Hp), f ≤ i → i + m = f + sz L f → (i = f + sz L f ∨ ∃ u : Nat, up L f u i st) → cT W h2 → fr2 h h2 → W.length + m * K + st.length ≤ 2900 → W ++ prF L m i st = prT L f → L0 g (d + 4) m11_write (retI Q) 29 [some (LR 5 n), some (LI f), some (LR 8 12), some (LI (f + sz L f)), some (LI i)] h2 := by
    intro m
    induction m with
    | zero =>
      intro i st W h2 fi hi hu H F l e
      refine v11_write_29 n0 ⟨fun _ => ?_, fun z => absurd (by omega) z⟩
      rw [show prF L 0 i st = [] from rfl, List.append_nil] at e
      rw [H.1, e]
      rw [e] at H
      exact q h2 H F
    | succ m ih =>
      intro i st W h2 fi hi hu H F l e
      obtain ⟨u, hu⟩ := hu.resolve_left (by omega)
      have i0 : 0 ≤ i := by omega
      have i1 : i < ln L := by omega
      have kk := hK i i0 i1
      have on := ol i i0 i1
      have p7 := on.p7 ok
      rw [Nat.succ_mul] at l
      have cn2 : cN n L h2 := cn.to (by rw [F n (by omega) (by omega)]) (fun k k0 k1 => F _ (by omega) (by omega))
      refine v11_write_29 n0 ⟨fun z => absurd z (by omega), fun _ => c_node nw n9 lc cn2 i0 i1 on ok H (by omega) (fun h3 H3 F3 => ?_)⟩
      have F3 := F.tr F3
      have C3 := cn.2 i i0 i1
      unfold prF at e
      rw [F3 (n + 9) (by omega) (by omega), F3 (n + 1) (by omega) (by omega), cs i i0 i1, C3.1, n9', n1, w32_id (x := i + 1) (by omega) (by omega)]
      refine ⟨i0, by omega, fun z => ⟨by omega, fun z2 => ?_, fun z2 => c_put H3 (by rw [List.length_append]; omega) (by decide) (by decide) (fun h4 H4 F4 => ?_)⟩, fun z => g11_writeBehind (fun _ _ _ => v11_writeBehind n0 (c_behind nw n9 lc lm cn cs par w f0 f1 i0 i1 u i st _ h3 hu (by omega) H3 F3 (by rw [List.length_append]; omega) (fun h4 H4 F4 => ?_)))⟩
      · have p : 0 < nd L i 7 := by
          apply Classical.byContradiction
          intro v
          exact z (sz_one i0 i1 (by omega))
        have p1 : nd L i 7 = 1 := by rcases on with o | o | o | o <;> omega
        rw [if_pos p, if_neg z2] at e
        refine ih (i + 1) st _ h3 (by omega) (by omega) (Or.inr ⟨u + 1, up_over w f0 f1 hu z2 p1⟩) H3 F3 (by rw [List.length_append]; omega) ?_
        rw [List.append_assoc]
        exact e
      · have p : 0 < nd L i 7 := by
          apply Classical.byContradiction
          intro v
          exact z (sz_one i0 i1 (by omega))
        rw [if_pos p, if_pos z2] at e
        refine ih (i + 1) ((nd L i 7).toNat :: st) _ h4 (by omega) (by omega) (Or.inr ⟨u + 1, up_head w f0 f1 hu z2 p⟩) H4 (F3.tr F4) (by rw [len1, List.length_append, List.length_cons]; omega) ?_
        simp only [List.append_assoc, List.cons_append, List.nil_append] at e ⊢
        exact e
      · have p : ¬ 0 < nd L i 7 := fun v => sz_two w i0 i1 v z
        rw [if_neg p] at e
        have sl := shut_l st
        refine ih (i + 1) (shut st).2 _ h4 (by omega) (by omega) (up_shut w f0 f1 u i st hu (by omega)) H4 F4 (by rw [List.length_append, List.length_append]; omega) ?_
        rw [List.append_assoc, List.append_assoc]
        exact e
  refine g11_write (fun _ _ => v11_write n0 (fun h1 k1 => ?_))
  have F1 : fr2 h h1 := fun a x1 x2 => by rw [k1, hup_r x1]
  refine f_has (L := L) n0 (by rw [F1 n (by omega) (by omega)]; exact cn.1) (bz (fun z => absurd ⟨f0, f1⟩ z) (fun _ => ⟨f0, by omega, ?_⟩))
  rw [F1 (n + 9) (by omega) (by omega), cs f f0 f1, w32_id (by omega) (by omega)]
  have hb : (sz L f).toNat * K ≤ L.length * K := Nat.mul_le_mul_right K (by omega)
  exact lp (sz L f).toNat f [] [] h1 (Int.le_refl _) (by omega) (Or.inr ⟨0, up_z 0⟩) (by rw [k1]; exact cT_0) F1 (by simp only [List.length_nil]; omega) rfl
end
