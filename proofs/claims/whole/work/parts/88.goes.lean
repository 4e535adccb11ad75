/-! THE NET: marks that go with the tree -/
theorem wf_skp : ∀ (L : NL) (j k : Nat), wf L (j + k) → wf (L.drop (tl L j)) k
  | [], j, k, h => by
    have h : j + k = 0 := h
    have : k = 0 := by omega
    subst this
    simp [wf, tl]
  | x :: L, 0, k, h => by
    rw [Nat.zero_add] at h
    rw [tl_0]
    exact h
  | x :: L, j + 1, k, h => by
    rw [show j + 1 + k = j + k + 1 by omega] at h
    have h : wf L ((x 7).toNat + (j + k)) := h
    have := wf_skp L ((x 7).toNat + j) k (by rw [show (x 7).toNat + j + k = (x 7).toNat + (j + k) by omega]; exact h)
    show wf ((x :: L).drop (1 + tl L ((x 7).toNat + j))) k
    rw [Nat.add_comm 1, List.drop_succ_cons]
    exact this
/-- holes ahead of a mark -/
noncomputable def hol (L : NL) (k : Int) : Int := cbl (fun i => nd L i 0 = 2) k
theorem agL_b {E : Ev} {L : NL} (ol : okL E L) {i : Int} (i1 : i < ln L) (n3 : nd L i 3 ≠ -1) : ∀ (m : Nat) (y : Int), 0 ≤ y → y + m ≤ i → agL L i m y (hol L y) = -1 ∨ (0 ≤ agL L i m y (hol L y) ∧ agL L i m y (hol L y) < hol L (y + m))
  | 0, y, _, _ => Or.inl rfl
  | m + 1, y, y0, hy => by
    have on := ol y y0 (by omega)
    have hs : hol L (y + 1) = hol L y + cb (nd L y 0 = 2) := cbl_s y0
    have hm : hol L (y + 1) ≤ hol L (y + ((m + 1 : Nat) : Int)) := cbl_m (by omega) (by omega)
    have hb : 0 ≤ hol L y := (cbl_b y0).1
    unfold agL
    by_cases c : nd L y 3 = nd L i 3
    · rw [if_pos c]
      have s2 : nd L y 0 = 2 := by rcases on with o | o | o | o <;> omega
      rw [cb_t s2] at hs
      exact Or.inr ⟨hb, by omega⟩
    · rw [if_neg c]
      have ih := agL_b ol i1 n3 m (y + 1) (by omega) (by omega)
      have e : hol L y + (if nd L y 0 = 2 then 1 else 0) = hol L (y + 1) := by
        rw [hs]
        split
        · rename_i z; rw [cb_t z]
        · rename_i z; rw [cb_f z]
      rw [e, show y + ((m + 1 : Nat) : Int) = y + 1 + (m : Int) by omega]
      exact ih
theorem ag_b {E : Ev} {L : NL} (ol : okL E L) {i : Int} (i0 : 0 ≤ i) (i1 : i < ln L) : ag L i = -1 ∨ (0 ≤ ag L i ∧ ag L i < hol L i) := by
  unfold ag
  split
  · exact Or.inl rfl
  · rename_i c
    have := agL_b ol i1 c i.toNat 0 (by decide) (by omega)
    rw [show (0 : Int) + ((i.toNat : Nat) : Int) = i by omega] at this
    exact this
theorem cntF_z {f : Int → Int} (hf : ∀ i, f i = 0 ∨ f i = 1) : ∀ k : Nat, cntF f k = 0 → ∀ i : Int, 0 ≤ i → i < k → f i = 0
  | 0, _, i, i0, i1 => by omega
  | k + 1, h, i, i0, i1 => by
    have b := cntF_01 hf k
    have c := hf k
    simp only [cntF] at h
    by_cases e : i = k
    · rw [e]; omega
    · exact cntF_z hf k (by omega) i i0 (by omega)
theorem inN_s {P : Ps} {p : Int} (h : inN P p) {i : Int} (i0 : 0 ≤ i) (i1 : i < ln (P p).2.2) : ¬ (nd (P p).2.2 i 0 = 3 ∨ nd (P p).2.2 i 0 = 4 ∨ nd (P p).2.2 i 8 = 1) := by
  have := cntF_z (f := fun i => cb (nd (P p).2.2 i 0 = 3 ∨ nd (P p).2.2 i 0 = 4 ∨ nd (P p).2.2 i 8 = 1)) (fun _ => cb_01 _) _ h.2 i i0 (by unfold ln at i1; omega)
  exact cb_0.mp this
/-- a mark goes with a node -/
def gsP (E : Ev) (P T : NL) (k t : Int) (pa : Fl) : Prop := (nd P k 0 = 0 ∧ nd T t 1 = nd P k 1) ∨ (nd P k 0 = 1 ∧ nd T t 0 = 1 ∧ nd T t 5 = nd P k 5) ∨ (nd P k 0 = 2 ∧ fh E P T k t ∧ (ag P k = -1 ∨ alk T (pa (ag P k)) t))
noncomputable def gw (E : Ev) (P T : NL) : Nat → Int → Int → Int → Fl → Int × Int
  | 0, k, t, _, _ => (k, t)
  | m + 1, k, t, c, pa => @ite _ (gsP E P T k t pa) (Classical.propDecidable _) (if nd P k 0 = 0 then gw E P T m (k + 1) (t + 1) c pa else if nd P k 0 = 2 then gw E P T m (k + 1) (t + sz T t) (c + 1) (fup pa c t) else gw E P T m (k + 1) (t + sz T t) c pa) (k, t)
noncomputable def gw0 (E : Ev) (P T : NL) : Int × Int := gw E P T (ln P).toNat 0 0 0 (fun _ => 0)
/-- a state on the way -/
def GI (P T : NL) (k t c : Int) (pa : Fl) : Prop := 0 ≤ k ∧ 0 ≤ t ∧ c = hol P k ∧ (∀ j : Int, 0 ≤ j → j < c → 0 ≤ pa j ∧ pa j < ln T) ∧ ∃ r : Nat, wf (P.drop k.toNat) r ∧ wf (T.drop t.toNat) r
theorem GI_0 {P T : NL} (wP : wf P 1) (wT : wf T 1) : GI P T 0 0 0 (fun _ => 0) := ⟨by decide, by decide, rfl, fun j j0 j1 => by omega, 1, wP, wT⟩
theorem GI_t {P T : NL} {k t c : Int} {pa : Fl} (H : GI P T k t c pa) (k1 : k < ln P) : t < ln T := by
  obtain ⟨k0, t0, _, _, r, w1, w2⟩ := H
  rw [nd_drop k0 k1] at w1
  cases r with
  | zero => exact w1.elim
  | succ r =>
    apply Classical.byContradiction
    intro z
    have : T.drop t.toNat = [] := List.drop_eq_nil_of_le (by unfold ln at z; omega)
    rw [this] at w2
    exact absurd (show r + 1 = 0 from w2) (by omega)
theorem GI_s {E : Ev} {P T : NL} {k t c : Int} {pa : Fl} (oP : okL E P) (oT : okT E T) (H : GI P T k t c pa) (k1 : k < ln P) (G : gsP E P T k t pa) : (nd P k 0 = 0 → GI P T (k + 1) (t + 1) c pa) ∧ (nd P k 0 = 1 → GI P T (k + 1) (t + sz T t) c pa) ∧ (nd P k 0 = 2 → GI P T (k + 1) (t + sz T t) (c + 1) (fup pa c t)) := by
  have t1 := GI_t H k1
  obtain ⟨k0, t0, hc, hp, r, w1, w2⟩ := H
  have ok := oP k k0 k1
  have ot := oT.1 t t0 t1
  have hs : hol P (k + 1) = hol P k + cb (nd P k 0 = 2) := cbl_s k0
  have w1' := w1
  rw [nd_drop k0 k1] at w1
  cases r with
  | zero => exact w1.elim
  | succ r =>
    have w1 : wf (P.drop (k.toNat + 1)) ((nd P k 7).toNat + r) := w1
    have sk := wf_skp (T.drop t.toNat) 1 r (by rw [Nat.add_comm]; exact w2)
    rw [List.drop_drop] at sk
    have se : t.toNat + tl (T.drop t.toNat) 1 = (t + sz T t).toNat := by unfold sz; omega
    rw [se] at sk
    have sp := sz_pos t0 t1
    have ek : (k + 1).toNat = k.toNat + 1 := by omega
    refine ⟨fun z => ?_, fun z => ?_, fun z => ?_⟩
    · rw [nd_drop t0 t1] at w2
      have w2 : wf (T.drop (t.toNat + 1)) ((nd T t 7).toNat + r) := w2
      have hh : nd T t 1 = nd P k 1 := by
        rcases G with a | a | a
        · exact a.2
        · omega
        · omega
      have e7 : nd T t 7 = nd P k 7 := by
        rcases ok with o | o | o | o
        · rcases ot with u | u | u | u
          · rw [u.2.2.2.2.2.2.2.2.1, o.2.2.2.2.2.2.2.2.1, hh]
          all_goals omega
        all_goals omega
      rw [cb_f (by omega)] at hs
      refine ⟨by omega, by omega, by omega, hp, (nd P k 7).toNat + r, by rw [ek]; exact w1, ?_⟩
      rw [show (t + 1).toNat = t.toNat + 1 by omega, ← e7]
      exact w2
    · have p7 : nd P k 7 = 0 := by rcases ok with o | o | o | o <;> omega
      rw [cb_f (by omega)] at hs
      rw [p7, show (0 : Int).toNat + r = r by simp] at w1
      exact ⟨by omega, by omega, by omega, hp, r, by rw [ek]; exact w1, sk⟩
    · have p7 : nd P k 7 = 0 := by rcases ok with o | o | o | o <;> omega
      rw [cb_t z] at hs
      rw [p7, show (0 : Int).toNat + r = r by simp] at w1
      refine ⟨by omega, by omega, by omega, fun j j0 j1 => ?_, r, by rw [ek]; exact w1, sk⟩
      by_cases cj : j = c
      · rw [cj, fup_at]; exact ⟨t0, t1⟩
      · rw [fup_ne cj]; exact hp j j0 (by omega)
section
variable {g : Gl} {d : Nat} {h : Hp} {E : Ev} {T : NL} {P : Ps} {L : NL} {Q : Int → Hp → Prop}
theorem f_goes (ok : okE E) (ce : cE E h) (oT : okT E T) (ct : cTr T h) {p k t c : Int} {pa : Fl} (p0 : 0 ≤ p) (p1 : p < 40) (cp : cPt (35 + 14 * p) L h) (oL : okL E L) (l9 : ln L ≤ 24) (H : GI L T k t c pa) (k1 : k < ln L) (s2 : nd L k 0 = 0 ∨ nd L k 0 = 1 ∨ nd L k 0 = 2) (hp : ∀ j : Int, 0 ≤ j → j < c → h 606 j = pa j) (q : Q (cb (gsP E L T k t pa)) h) : Good g (d + 4) i4_goes [LR 4 605, LR 6 (35 + 14 * p), LI k, LI t] S0 h S0 (retI Q) := by
  have t1 := GI_t H k1
  obtain ⟨k0, t0, hc, hpa, _⟩ := H
  obtain ⟨n0, n1, n2, n3, n4, n5, n6, n7, n8, n9⟩ := NDs.pat (g := g) p0 p1
  have e1 : lnn g (35 + 14 * p + 11) = 24 := lnn_p (k := 11) p0 p1 (by decide) (by decide) (by omega) rfl
  obtain ⟨c1, c2, c3, c4, c5, c6, c7⟩ := cp.1.2 k k0 k1
  obtain ⟨b1, b2, b3, b4, b5, b6, b7⟩ := ct.1.2 t t0 t1
  have l1 := oT.2.2.1
  have c8 := cp.2.2.2.1 k k0 k1
  have no : ¬ gsP E L T k t pa → Q 0 h := fun z => by rwa [cb_f z] at q
  have ys : gsP E L T k t pa → Q 1 h := fun z => by rwa [cb_t z] at q
  have ab := ag_b oL k0 k1
  have hb := cbl_b (X := fun i => nd L i 0 = 2) k0
  have hb' : hol L k ≤ k := hb.2
  unfold gsP at no ys
  have b1 : h 15 t = nd T t 0 := b1
  have b2 : h 16 t = nd T t 1 := b2
  have b6 : h 20 t = nd T t 5 := b6
  refine g4_goes (fun _ _ _ => v4_goes (by omega) ?_)
  rw [c1, c2, c6, c8, b1, b2, b6, n1, n2, n6, e1]
  simp only [lc_eq]
  refine ⟨by omega, k0, by omega, fun z => ⟨fun z2 => ⟨by omega, f_fitsHole ok ce NDs.tree ct.1 l1 (NDs.pat p0 p1) cp.1 l9 t0 t1 k0 k1 (oT.1 t t0 t1) (by rcases oL k k0 k1 with o | o | o | o <;> omega) (bz (fun w => no (fun v => by rcases v with v | v | v; exact z v.1; exact z2 v.1; exact w v.2.1)) (fun w => ⟨fun w2 => ys (Or.inr (Or.inr ⟨by omega, w, Or.inl w2⟩)), fun w2 => ⟨by omega, by omega, ?_⟩⟩))⟩, fun z2 => ⟨t0, by omega, fun z3 => no (fun v => by rcases v with v | v | v; omega; exact z3 v.2.1; omega), fun z3 => ⟨by omega, by omega, fun z4 => no (fun v => by rcases v with v | v | v; omega; exact z4 v.2.2; omega), fun z4 => ys (Or.inr (Or.inl ⟨z2, z3, z4⟩))⟩⟩⟩, fun z => ⟨t0, by omega, by omega, by omega, fun z2 => no (fun v => by rcases v with v | v | v; exact z2 v.2; omega; omega), fun z2 => ys (Or.inl ⟨z, z2⟩)⟩⟩
  have ag0 : 0 ≤ ag L k ∧ ag L k < c := by omega
  have pv := hpa _ ag0.1 ag0.2
  rw [hp _ ag0.1 ag0.2]
  refine f_areAlike (d := d + 1) NDs.tree ct.1 ct.2.1 l1 (by decide) pv.1 pv.2 t0 t1 (bz (fun y => no (fun v => by rcases v with v | v | v; exact z v.1; exact z2 v.1; exact y (v.2.2.resolve_left w2))) (fun y => ys (Or.inr (Or.inr ⟨by omega, w, Or.inr y⟩))))
theorem f_marksGo (ok : okE E) (ce : cE E h) (oT : okT E T) (wT : wf T 1) (ct : cTr T h) {p : Int} (p0 : 0 ≤ p) (p1 : p < 40) (cp : cPt (35 + 14 * p) L h) (oL : okL E L) (wL : wf L 1) (l9 : ln L ≤ 24) (s2 : ∀ i : Int, 0 ≤ i → i < ln L → nd L i 0 = 0 ∨ nd L i 0 = 1 ∨ nd L i 0 = 2) (q : ∀ h' : Hp, (∀ a : Int, a ≠ 605 → a ≠ 606 → h' a = h a) → ((gw0 E L T).1 < ln L → h' 605 4 = (gw0 E L T).2) → Q (gw0 E L T).1 h') : Good g (d + 5) i4_marksThatGo [LR 4 605, LR 6 (35 + 14 * p)] S0 h S0 (retI Q) := by
  have l1 := oT.2.2.1
  obtain ⟨n0, n1, n2, n3, n4, n5, n6, n7, n8, n9⟩ := NDs.pat (g := g) p0 p1
  have lp : ∀ (m : Nat) (k t c : Int) (pa : Fl) (h2 : Hp), k + m = ln L → GI L T k t c pa → (∀ a : Int, a ≠ 605 → a ≠ 606 → h2 a = h a) → (∀ j : Int, 0 ≤ j → j < c → h2 606 j = pa j) → (∀ h' : Hp, (∀ a : Int, a ≠ 605 → a ≠ 606 → h' a = h a) → ((gw E L T m k t c pa).1 < ln L → h' 605 4 = (gw E L T m k t c pa).2) → Q (gw E L T m k t c pa).1 h') → L0 g (d + 4) m4_marksThatGo (retI Q) 13 [some (LR 4 605), some (LR 6 (35 + 14 * p)), some (LR 5 (35 + 14 * p + 1)), some (LI c), some (LI t), some (LI k)] h2 := by
    intro m
    induction m with
    | zero =>
      intro k t c pa h2 hk H F hp q
      have e9 : h2 (35 + 14 * p + 1) 9 = ln L := by rw [F _ (by omega) (by omega)]; exact cp.1.1
      have ek : k = ln L := by omega
      refine v4_marksThatGo_13 (by omega) (by omega) ?_
      rw [e9]
      refine ⟨fun _ => ?_, fun z => absurd (by omega) z⟩
      have X := q h2 F (fun z => absurd z (by show ¬ k < ln L; omega))
      have e : (gw E L T 0 k t c pa).1 = ln L := by show k = ln L; exact ek
      rw [e] at X
      exact X
    | succ m ih =>
      intro k t c pa h2 hk H F hp q
      have k1 : k < ln L := by omega
      have t1 := GI_t H k1
      have k0 := H.1
      have t0 := H.2.1
      have hb' : hol L k ≤ k := (cbl_b (X := fun i => nd L i 0 = 2) k0).2
      have hc := H.2.2.1
      have hc0 : 0 ≤ c := by rw [hc]; exact (cbl_b (X := fun i => nd L i 0 = 2) k0).1
      have sk := s2 k k0 k1
      have sl := sz_le t0 t1
      have sp := sz_pos t0 t1
      have e9 : h2 (35 + 14 * p + 1) 9 = ln L := by rw [F _ (by omega) (by omega)]; exact cp.1.1
      unfold gw at q
      refine v4_marksThatGo_13 (by omega) (by omega) ?_
      rw [e9]
      refine ⟨fun z => absurd z (by omega), fun _ h3 k3 => ?_⟩
      have F3 : ∀ a : Int, a ≠ 605 → h3 a = h2 a := fun a ha => by rw [k3, hup_r ha]
      have G3 : ∀ a : Int, a ≠ 605 → a ≠ 606 → h3 a = h a := fun a x1 x2 => by rw [F3 a x1]; exact F a x1 x2
      have ct3 : cTr T h3 := ct.to (fun a b0 b1 => G3 a (by omega) (by omega))
      have ce3 : cE E h3 := ce.to (G3 5 (by decide) (by decide)) (G3 6 (by decide) (by decide)) (G3 7 (by decide) (by decide)) (G3 8 (by decide) (by decide)) (G3 9 (by decide) (by decide))
      have cp3 : cPt (35 + 14 * p) L h3 := cp.to (fun a b0 b1 => G3 a (by omega) (by omega)) (by rw [G3 _ (by omega) (by omega)]) (by rw [G3 _ (by omega) (by omega)]) (by rw [G3 _ (by omega) (by omega)])
      have st : h3 605 4 = t := by rw [k3, hup_at]
      refine f_has (d := d + 3) (by decide) ct3.1.1 (bz (fun z => absurd ⟨t0, t1⟩ z) (fun _ => ?_))
      refine f_goes ok ce3 oT ct3 p0 p1 cp3 oL l9 H k1 sk (fun j j0 j1 => by rw [F3 606 (by decide)]; exact hp j j0 j1) (bn (fun G => ?_) (fun G => ?_))
      · rw [if_pos G] at q
        have S := GI_s oL oT H k1 G
        have e0 : h3 (35 + 14 * p + 1 + 1) k = nd L k 0 := (cp3.1.2 k k0 k1).1
        have e23 : h3 23 t = sz T t := ct3.2.1 t t0 t1
        rw [e0, n1, e23, w32_id (x := k + 1) (by omega) (by omega), w32_id (x := t + 1) (by omega) (by omega), w32_id (x := t + sz T t) (by omega) (by omega)]
        refine ⟨k0, by omega, fun z => ⟨fun z2 => ⟨t0, by omega, ?_⟩, fun z2 => ?_⟩, fun z => ⟨hc0, by omega, fun h13 k13 => ?_⟩⟩
        · rw [if_neg z2, if_neg z] at q
          exact ih (k + 1) (t + sz T t) c pa h3 (by omega) (S.2.1 (by omega)) G3 (fun j j0 j1 => by rw [F3 606 (by decide)]; exact hp j j0 j1) q
        · rw [if_pos z2] at q
          exact ih (k + 1) (t + 1) c pa h3 (by omega) (S.1 z2) G3 (fun j j0 j1 => by rw [F3 606 (by decide)]; exact hp j j0 j1) q
        · have e0' : h13 (35 + 14 * p + 1 + 1) k = nd L k 0 := by rw [k13, hup_r (by omega)]; exact e0
          have e23' : h13 23 t = sz T t := by rw [k13, hup_r (by decide)]; exact e23
          rw [e0', e23', w32_id (x := c + 1) (by omega) (by omega), w32_id (x := t + sz T t) (by omega) (by omega)]
          rw [if_neg (by omega), if_pos z] at q
          refine ⟨fun _ => ⟨t0, by omega, ?_⟩, fun z2 => absurd z2 (by omega)⟩
          refine ih (k + 1) (t + sz T t) (c + 1) (fup pa c t) h13 (by omega) (S.2.2 z) (fun a x1 x2 => by rw [k13, hup_r x2]; exact G3 a x1 x2) (fun j j0 j1 => ?_) q
          by_cases cj : j = c
          · rw [k13, cj, hup_at, fup_at]
          · rw [k13, hup_nj cj, fup_ne cj, F3 606 (by decide)]
            exact hp j j0 (by omega)
      · rw [if_neg G] at q
        exact q h3 G3 (fun _ => st)
  have l0 : 0 ≤ ln L := by unfold ln; omega
  exact g4_marksThatGo (fun _ => v4_marksThatGo (by omega) (lp (ln L).toNat 0 0 0 (fun _ => 0) h (by omega) (GI_0 wL wT) (fun _ _ _ => rfl) (fun j j0 j1 => by omega) q))
end
