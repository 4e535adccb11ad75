/-! PATTERNS, the model: what is told -/
theorem bit_get : ∀ m : Nat, m < 1024 → ∀ j : Nat, j < 10 → iandI (ishrI (m : Int) (j : Int)) 1 = if m.testBit j then 1 else 0 := by
  have key : ((List.range 1024).all (fun m => (List.range 10).all (fun j => decide (iandI (ishrI (m : Int) (j : Int)) 1 = if m.testBit j then 1 else 0)))) = true := by decide +kernel
  intro m hm j hj
  have k1 := List.all_eq_true.mp key m (List.mem_range.mpr hm)
  have k2 := List.all_eq_true.mp k1 j (List.mem_range.mpr hj)
  exact of_decide_eq_true k2
theorem bit_set : ∀ m : Nat, m < 1024 → ∀ j : Nat, j < 10 → iorI (m : Int) (ishlI 1 (j : Int)) = ((m ||| (1 <<< j) : Nat) : Int) := by
  have key : ((List.range 1024).all (fun m => (List.range 10).all (fun j => decide (iorI (m : Int) (ishlI 1 (j : Int)) = ((m ||| (1 <<< j) : Nat) : Int))))) = true := by decide +kernel
  intro m hm j hj
  have k1 := List.all_eq_true.mp key m (List.mem_range.mpr hm)
  have k2 := List.all_eq_true.mp k1 j (List.mem_range.mpr hj)
  exact of_decide_eq_true k2
theorem agL_no {L : NL} {i : Int} : ∀ (m : Nat) (y c : Int), 0 ≤ c → (agL L i m y c = -1 ↔ ∀ z : Int, y ≤ z → z < y + m → nd L z 3 ≠ nd L i 3)
  | 0, y, c, _ => ⟨fun _ z a b => by omega, fun _ => rfl⟩
  | m + 1, y, c, c0 => by
    unfold agL
    by_cases e : nd L y 3 = nd L i 3
    · rw [if_pos e]
      exact ⟨fun z => by omega, fun z => absurd e (z y (by omega) (by omega))⟩
    · rw [if_neg e, agL_no m (y + 1) _ (by split <;> omega)]
      refine ⟨fun z w a b => ?_, fun z w a b => z w (by omega) (by omega)⟩
      by_cases c : w = y
      · rw [c]; exact e
      · exact z w (by omega) (by omega)
theorem ag_no {L : NL} {i : Int} (i0 : 0 ≤ i) (h : nd L i 3 ≠ -1) : ag L i = -1 ↔ ∀ z : Int, 0 ≤ z → z < i → nd L z 3 ≠ nd L i 3 := by
  unfold ag
  rw [if_neg h, agL_no i.toNat 0 0 (by decide)]
  exact ⟨fun z w a b => z w a (by omega), fun z w a b => z w a (by omega)⟩
section
variable {g : Gl} {d : Nat} {h : Hp} {E : Ev} {L : NL} {P : Ps} {Q : Int → Hp → Prop}
theorem m_oddOf (ok : okE E) (me : mE E h) {p : Int} (p0 : 0 ≤ p) (p1 : p < 40) (mp : mPt p L h) (ol : okL E L) (l9 : ln L ≤ 24) (q : Q (wld L) h) : Good g (d + 1) i10_oddOf [LR 10 608, LI p] S0 h S0 (retI Q) := by
  have o4 := ok.2.2.2.1
  let A7 : Int → Int := fun i => cb (nd L i 0 = 3 ∨ nd L i 0 = 4 ∨ nd L i 8 = 1)
  have lp : ∀ (m y : Nat), y + m = L.length → L0 g d m10_oddOf (retI Q) 7 [some (LR 10 608), some (LI p), some (LI (cntF A7 y)), some (LI (24 * p + y))] h := by
    intro m
    induction m with
    | zero =>
      intro y hy
      have ly : (y : Int) = ln L := by unfold ln; omega
      refine v10_oddOf_7 ?_
      rw [mp.1, w32_id (x := 24 * p) (by omega) (by omega), w32_id (x := 24 * p + ln L) (by omega) (by omega)]
      refine ⟨p0, p1, fun _ => ?_, fun z => absurd (by omega) z⟩
      rw [show y = L.length by omega]
      exact q
    | succ m ih =>
      intro y hy
      have ly : (y : Int) < ln L := by unfold ln; omega
      have b7 := cntF_01 (f := A7) (fun i => cb_01 _) y
      have on := ol y (by omega) ly
      have M := mp.2 y (by omega) ly
      have nx : ∀ v : Int, v = cntF A7 (y + 1) → L0 g d m10_oddOf (retI Q) 7 [some (LR 10 608), some (LI p), some (LI v), some (LI (24 * p + y + 1))] h := by
        intro v hv
        rw [hv, show 24 * p + (y : Int) + 1 = 24 * p + ((y + 1 : Nat) : Int) by omega]
        exact ih (y + 1) (by omega)
      refine v10_oddOf_7 ?_
      rw [mp.1, w32_id (x := 24 * p) (by omega) (by omega), w32_id (x := 24 * p + ln L) (by omega) (by omega), M.1, M.2.1, w32_id (x := cntF A7 y + 1) (by omega) (by omega), w32_id (x := cntF A7 y + 0) (by omega) (by omega), w32_id (x := 24 * p + (y : Int) + 1) (by omega) (by omega)]
      refine ⟨p0, p1, fun z => absurd z (by omega), fun _ => ⟨by omega, by omega, fun c => nx _ ?_, fun c => ⟨fun c2 => nx _ ?_, fun c2 => ?_⟩⟩⟩
      · show _ = cntF A7 y + cb _
        rw [cb_t]
        rcases on with o | o | o | o <;> omega
      · show _ = cntF A7 y + cb _
        rw [cb_f]
        rcases on with o | o | o | o <;> omega
      · rcases on with o | o | o | o
        · have hl := ok.2.2.2.2.2 _ o.2.1 o.2.2.1
          rw [(me.2.2.2 _ o.2.1 o.2.2.1).2.2]
          refine ⟨o.2.1, by omega, fun _ => ⟨fun c3 => nx _ ?_, fun c3 => nx _ ?_⟩⟩
          · show _ = cntF A7 y + cb _
            rw [cb_f (by omega)]
          · show _ = cntF A7 y + cb _
            rw [cb_t (by omega)]
        · omega
        · omega
        · omega
  refine g10_oddOf (fun _ => v10_oddOf ?_)
  rw [w32_id (by omega) (by omega)]
  have := lp L.length 0 (by omega)
  rwa [show 24 * p + ((0 : Nat) : Int) = 24 * p by omega] at this
theorem y_inNet (ok : okE E) (me : mE E h) (op : okP E P) (mp : mPS P h) {p : Int} (p0 : 0 ≤ p) (p1 : p < 40) (q : Q (cb (inN P p)) h) : Good g (d + 2) i10_inNet [LR 10 608, LI p] S0 h S0 (retI Q) := by
  have o := op p p0 p1
  have M := mp p p0 p1
  refine g10_inNet (fun _ => v10_inNet ⟨p0, p1, fun _ => ?_⟩)
  rw [M.1]
  refine ⟨fun c => ?_, fun c => ?_⟩
  · rwa [cb_f (fun z => by have := z.1; omega)] at q
  · have z : (P p).1 = 1 := by have := o.1; omega
    refine m_oddOf ok me p0 p1 (M.2 z).2 (o.2.2 z).1 o.2.1 ⟨fun c2 => ?_, fun c2 => ?_⟩
    · rwa [cb_f (fun w => c2 w.2)] at q
    · rwa [cb_t ⟨z, c2⟩] at q
theorem m_namesOf (ok : okE E) {p : Int} (p0 : 0 ≤ p) (p1 : p < 40) (mp : mPt p L h) (ol : okL E L) (l9 : ln L ≤ 24) {u : Int} (q : Q (if u = 0 then nmd L else unl L) h) : Good g (d + 1) i10_namesOf [LR 10 608, LI p, LI u] S0 h S0 (retI Q) := by
  let A : Int → Int := fun i => if u = 0 then cb (nd L i 3 ≠ -1) else cb (nd L i 3 ≠ -1 ∧ ag L i = -1)
  have a01 : ∀ i, A i = 0 ∨ A i = 1 := fun i => by
    show (if u = 0 then cb _ else cb _) = 0 ∨ (if u = 0 then cb _ else cb _) = 1
    split
    · exact cb_01 _
    · exact cb_01 _
  have eA : cntF A L.length = if u = 0 then nmd L else unl L := by
    by_cases c : u = 0
    · rw [if_pos c]
      exact cntF_c _ (fun i _ _ => by show (if u = 0 then _ else _) = _; rw [if_pos c])
    · rw [if_neg c]
      exact cntF_c _ (fun i _ _ => by show (if u = 0 then _ else _) = _; rw [if_neg c])
  have lp : ∀ (m y k : Nat), y + m = L.length → k < 1024 → (∀ j : Nat, j < 10 → (k.testBit j = true ↔ ∃ z : Int, 0 ≤ z ∧ z < y ∧ nd L z 3 = j)) → L0 g d m10_namesOf (retI Q) 11 [some (LR 10 608), some (LI p), some (LI u), some (LI (cntF A y)), some (LI k), some (LI (24 * p + y))] h := by
    intro m
    induction m with
    | zero =>
      intro y k hy hk hb
      have ly : (y : Int) = ln L := by unfold ln; omega
      refine v10_namesOf_11 ?_
      rw [mp.1, w32_id (x := 24 * p) (by omega) (by omega), w32_id (x := 24 * p + ln L) (by omega) (by omega)]
      refine ⟨p0, p1, fun _ => ?_, fun z => absurd (by omega) z⟩
      rw [show y = L.length by omega, eA]
      exact q
    | succ m ih =>
      intro y k hy hk hb
      have ly : (y : Int) < ln L := by unfold ln; omega
      have b7 := cntF_01 (f := A) a01 y
      have on := ol y (by omega) ly
      have M := mp.2 y (by omega) ly
      have nx : ∀ (v : Int) (k' : Nat), v = cntF A (y + 1) → k' < 1024 → (∀ j : Nat, j < 10 → (k'.testBit j = true ↔ ∃ z : Int, 0 ≤ z ∧ z < ((y + 1 : Nat) : Int) ∧ nd L z 3 = j)) → L0 g d m10_namesOf (retI Q) 11 [some (LR 10 608), some (LI p), some (LI u), some (LI v), some (LI k'), some (LI (24 * p + y + 1))] h := by
        intro v k' hv h1 h2
        rw [hv, show 24 * p + (y : Int) + 1 = 24 * p + ((y + 1 : Nat) : Int) by omega]
        exact ih (y + 1) k' (by omega) h1 h2
      refine v10_namesOf_11 ?_
      rw [mp.1, w32_id (x := 24 * p) (by omega) (by omega), w32_id (x := 24 * p + ln L) (by omega) (by omega), M.1, M.2.2.2.1, w32_id (x := cntF A y + 1) (by omega) (by omega), w32_id (x := cntF A y + 0) (by omega) (by omega), w32_id (x := 24 * p + (y : Int) + 1) (by omega) (by omega)]
      have keep : nd L y 3 < 0 → ∀ j : Nat, j < 10 → (k.testBit j = true ↔ ∃ z : Int, 0 ≤ z ∧ z < ((y + 1 : Nat) : Int) ∧ nd L z 3 = j) := by
        intro c j hj
        rw [hb j hj]
        constructor
        · rintro ⟨z, z0, z1, z2⟩
          exact ⟨z, z0, by omega, z2⟩
        · rintro ⟨z, z0, z1, z2⟩
          refine ⟨z, z0, Classical.byContradiction (fun w => ?_), z2⟩
          have : z = y := by omega
          subst this
          omega
      refine ⟨p0, p1, fun z => absurd z (by omega), fun _ => ⟨by omega, by omega, fun c => ?_, fun c => ⟨fun c2 => ?_, fun c2 => ?_⟩⟩⟩
      · have e1 : nd L y 3 = -1 := by rcases on with o | o | o | o <;> omega
        have : cntF A y = cntF A (y + 1) := by
          show _ = cntF A y + (if u = 0 then cb _ else cb _)
          rw [cb_f (fun z => z e1), cb_f (fun z => z.1 e1)]
          split <;> omega
        exact nx _ k this hk (keep c)
      · rcases on with o | o | o | o <;> omega
      · have nm : 0 ≤ nd L y 3 ∧ nd L y 3 < 10 := by rcases on with o | o | o | o <;> omega
        have ne : nd L y 3 ≠ -1 := by omega
        have ej : nd L y 3 = (((nd L y 3).toNat : Nat) : Int) := by omega
        have bs := bit_set k hk (nd L y 3).toNat (by omega)
        have bg := bit_get k hk (nd L y 3).toNat (by omega)
        rw [← ej] at bs bg
        rw [bs, bg]
        have k'lt : k ||| (1 <<< (nd L y 3).toNat) < 1024 := by
          apply Nat.or_lt_two_pow (n := 10) hk
          rw [Nat.shiftLeft_eq, Nat.one_mul]
          exact Nat.pow_lt_pow_right (by decide) (by omega)
        have hb' : ∀ j : Nat, j < 10 → ((k ||| (1 <<< (nd L y 3).toNat)).testBit j = true ↔ ∃ z : Int, 0 ≤ z ∧ z < ((y + 1 : Nat) : Int) ∧ nd L z 3 = j) := by
          intro j hj
          rw [Nat.testBit_or, Bool.or_eq_true, hb j hj, Nat.shiftLeft_eq, Nat.one_mul, Nat.testBit_two_pow]
          constructor
          · rintro (⟨z, z0, z1, z2⟩ | z)
            · exact ⟨z, z0, by omega, z2⟩
            · exact ⟨y, by omega, by omega, by rw [ej]; have := of_decide_eq_true z; omega⟩
          · rintro ⟨z, z0, z1, z2⟩
            by_cases cz : z = y
            · right
              subst cz
              exact decide_eq_true (by omega)
            · exact Or.inl ⟨z, z0, by omega, z2⟩
        have an := ag_no (L := L) (i := y) (by omega) ne
        have hbn := hb (nd L y 3).toNat (by omega)
        rw [← ej] at hbn
        refine ⟨fun c3 => nx _ _ ?_ k'lt hb', fun c3 => ⟨fun c4 => nx _ _ ?_ k'lt hb', fun c4 => nx _ _ ?_ k'lt hb'⟩⟩
        · show _ = cntF A y + (if u = 0 then cb _ else cb _)
          rw [if_pos c3, cb_t ne]
        · show _ = cntF A y + (if u = 0 then cb _ else cb _)
          rw [if_neg c3, cb_t ⟨ne, an.mpr (fun z z0 z1 z2 => c4 (by rw [if_pos (hbn.mpr ⟨z, z0, z1, z2⟩)]))⟩]
        · show _ = cntF A y + (if u = 0 then cb _ else cb _)
          rw [if_neg c3, cb_f (fun w => ?_)]
          have t : k.testBit (nd L y 3).toNat = true := Classical.byContradiction (fun w2 => by rw [if_neg w2] at c4; exact absurd c4 (by decide))
          obtain ⟨z, z0, z1, z2⟩ := hbn.mp t
          exact an.mp w.2 z z0 z1 z2
  refine g10_namesOf (fun _ _ => v10_namesOf ?_)
  rw [w32_id (by omega) (by omega)]
  have := lp L.length 0 0 (by omega) (by decide) (fun j hj => by
    simp
    intro z z0 z1
    omega)
  rwa [show 24 * p + ((0 : Nat) : Int) = 24 * p by omega] at this
theorem y_told (ok : okE E) (me : mE E h) (op : okP E P) (mp : mPS P h) {x w : Int} (q : Q (tld P x w) h) : Good g (d + 3) i10_told [LR 10 608, LI x, LI w] S0 h S0 (retI Q) := by
  unfold tld at q
  refine g10_told (fun _ _ => v10_told (y_noPattern op mp (bz (fun c => ?_) (fun c => ?_))))
  · rw [if_neg c] at q
    have c : 0 ≤ x ∧ x < 40 ∧ (P x).1 = 1 := Classical.byContradiction c
    have M := (mp x c.1 c.2.1).2 c.2.2
    have o := op x c.1 c.2.1
    rw [M.1, M.2.1]
    refine ⟨fun z => ?_, fun z => ⟨c.1, c.2.1, ?_⟩, fun z => ⟨c.1, c.2.1, ?_⟩, fun z => ?_, fun z => ?_, fun z => ?_, fun z => ?_⟩
    · rwa [if_neg (by omega), if_neg (by omega), if_neg (by omega), if_neg (by omega), if_neg (by omega), if_neg (by omega)] at q
    · rwa [if_pos z] at q
    · rwa [if_neg (by omega), if_pos z] at q
    · rw [if_neg (by omega), if_neg (by omega), if_pos z] at q
      refine y_inNet ok me op mp c.1 c.2.1 (bz (fun z2 => ?_) (fun z2 => ?_))
      · rwa [cb_f z2] at q
      · rwa [cb_t z2] at q
    · rw [if_neg (by omega), if_neg (by omega), if_neg (by omega), if_pos z] at q
      exact m_namesOf ok c.1 c.2.1 M.2 (o.2.2 c.2.2).1 o.2.1 (by rw [if_pos rfl]; exact q)
    · rw [if_neg (by omega), if_neg (by omega), if_neg (by omega), if_neg (by omega), if_pos z] at q
      exact m_namesOf ok c.1 c.2.1 M.2 (o.2.2 c.2.2).1 o.2.1 (by rw [if_neg (by decide)]; exact q)
    · rw [if_neg (by omega), if_neg (by omega), if_neg (by omega), if_neg (by omega), if_neg (by omega), if_pos z] at q
      exact m_oddOf ok me c.1 c.2.1 M.2 (o.2.2 c.2.2).1 o.2.1 q
  · rwa [if_pos c] at q
end
