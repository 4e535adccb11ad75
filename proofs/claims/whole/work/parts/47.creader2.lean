/-! THE CLASS'S READER: nodes -/
def RP (h0 : Hp) (ip : Bool) (mo : Int) (Q : Int → Hp → Prop) (f p : Int) (L : NL) : Prop := (f = 0 → ∀ h' : Hp, RSt h0 ip mo L p h' → Q 1 h') ∧ (f ≠ 0 → ∀ h' : Hp, RFt h0 f p h' → Q 0 h')
section
variable {g : Gl} {d : Nat} {h h0 : Hp} {E : Ev} {B : Int → Int} {n : Int} {ip : Bool} {mo : Int} {L : NL} {p : Int} {Q : Int → Hp → Prop}
theorem c_passSign (cx : cX 10 1000 B n h0) {c : Int} (c0 : 0 ≤ c) (R : RSt h0 ip mo L p h) (p0 : 0 ≤ p) (p1 : p ≤ n) (q1 : byt B n (bl B n p) = c → ∀ h' : Hp, RSt h0 ip mo L (bl B n (bl B n p + 1)) h' → h' 597 6 = h 597 6 → Q 1 h') (q2 : byt B n (bl B n p) ≠ c → ∀ h' : Hp, RFt h0 1 (bl B n p) h' → Q 0 h') : Good g (d + 2) i7_passSign [LR 7 597, LI c] S0 h S0 (retI Q) := by
  have n1 := (R.1.cx cx).2.2.1
  have b1 := bl_p (B := B) (n := n) (p := p)
  have b1' := b1.2.1 p1
  refine g7_passSign (fun _ => v7_passSign (c_skip cx R p0 p1 (fun h1 R1 e1 => ?_)))
  rw [R1.2.2.1]
  refine c_byte cx R1.1 ⟨fun z h7 e7 => ?_, fun z => ?_⟩
  · have z2 := byt_in (B := B) (n := n) (i := bl B n p) (by omega)
    rw [R1.2.2.1, w32_id (by omega) (by omega)] at e7
    exact c_skip cx (R1.ps e7) (by omega) (by omega) (fun h8 R8 e8 => q1 z h8 R8 (by rw [e8, e7, hup_nj (by decide), e1]))
  · rw [R1.2.2.1]
    exact c_fail R1.1.1 (fun h' F _ _ => ⟨Or.inl rfl, q2 z h' F⟩)
theorem c_readSpan (cx : cX 10 1000 B n h0) {kn nm : Int} (R : RSt h0 ip mo (L ++ [hoN kn nm 0 0 0]) p h) (p0 : 0 ≤ p) (p1 : p < n) (hb : byt B n p = 91) (hl : ln L < 120) (q : RP h0 ip mo Q (spR B n (p + 1)).1 (spR B n (p + 1)).2.1 (L ++ [hoN kn nm 1 (spR B n (p + 1)).2.2.1 (spR B n (p + 1)).2.2.2])) : Good g (d + 3) i7_readSpan [LR 7 597, LI (ln L)] S0 h S0 (retI Q) := by
  have n1 := (R.1.cx cx).2.2.1
  have hp : bl B n p = p := by
    rw [byt_at p0 p1] at hb
    rw [bl_s, if_neg (fun z => by omega)]
  have b1 := bl_p (B := B) (n := n) (p := p + 1)
  have b1' := b1.2.1 (by omega)
  refine g7_readSpan (fun _ => v7_readSpan ⟨ln_nn L, hl, fun h1 e1 => ?_⟩)
  have R1 : RSt h0 ip mo (L ++ [hoN kn nm 1 0 0]) p h1 := R.set 4 (by decide) rfl e1 rfl (fun j hj hk => by match j, hj with
    | 0, _ => rfl
    | 1, _ => rfl
    | 2, _ => rfl
    | 3, _ => rfl
    | 4, _ => exact absurd rfl hk
    | 5, _ => rfl
    | 6, _ => rfl)
  refine c_passSign cx (by decide) R1 p0 (by omega) (fun c h2 R2 _ => ⟨fun z => absurd z (by decide), fun _ => ?_⟩) (fun c => absurd (by rw [hp]; exact hb) c)
  rw [hp] at R2
  unfold spR at q
  refine c_readNumber cx R2 (by omega) b1' (fun c3 h3 R3 v3 => ⟨fun _ h10 e10 => ?_, fun z => absurd z (by decide)⟩) (fun c3 h3 _ F3 => ⟨fun z => absurd rfl z, fun _ => ?_⟩)
  · rw [if_neg (fun z => z c3)] at q
    have k1 := nuR_ok (B := B) (n := n) (p := bl B n (p + 1)) (by omega) b1'
    have b2 := bl_p (B := B) (n := n) (p := (nuR B n (bl B n (p + 1))).2.1)
    have b2' := b2.2.1 k1.2.1
    rw [v3] at e10
    have R10 : RSt h0 ip mo (L ++ [hoN kn nm 1 (nuR B n (bl B n (p + 1))).2.2 0]) _ h10 := R3.set 5 (by decide) rfl e10 rfl (fun j hj hk => by match j, hj with
      | 0, _ => rfl
      | 1, _ => rfl
      | 2, _ => rfl
      | 3, _ => rfl
      | 4, _ => rfl
      | 5, _ => exact absurd rfl hk
      | 6, _ => rfl)
    refine c_passSign cx (by decide) R10 k1.1 k1.2.1 (fun c4 h11 R11 _ => ⟨fun z => absurd z (by decide), fun _ => ?_⟩) (fun c4 h11 F11 => ⟨fun _ => ?_, fun z => absurd rfl z⟩)
    · have c4' := byt_in (B := B) (n := n) (i := bl B n (nuR B n (bl B n (p + 1))).2.1) (by omega)
      rw [if_neg (fun z => z c4)] at q
      have b3 := bl_p (B := B) (n := n) (p := bl B n (nuR B n (bl B n (p + 1))).2.1 + 1)
      have b3' := b3.2.1 (by omega)
      refine c_readNumber cx R11 (by omega) b3' (fun c5 h15 R15 v15 => ⟨fun _ h19 e19 => ?_, fun z => absurd z (by decide)⟩) (fun c5 h15 _ F15 => ⟨fun z => absurd rfl z, fun _ => ?_⟩)
      · rw [if_neg (fun z => z c5)] at q
        have k2 := nuR_ok (B := B) (n := n) (p := bl B n (bl B n (nuR B n (bl B n (p + 1))).2.1 + 1)) (by omega) b3'
        rw [v15] at e19
        have R19 : RSt h0 ip mo (L ++ [hoN kn nm 1 (nuR B n (bl B n (p + 1))).2.2 (nuR B n (bl B n (bl B n (nuR B n (bl B n (p + 1))).2.1 + 1))).2.2]) _ h19 := R15.set 6 (by decide) rfl e19 rfl (fun j hj hk => by match j, hj with
          | 0, _ => rfl
          | 1, _ => rfl
          | 2, _ => rfl
          | 3, _ => rfl
          | 4, _ => rfl
          | 5, _ => rfl
          | 6, _ => exact absurd rfl hk)
        refine c_passSign cx (by decide) R19 k2.1 k2.2.1 (fun c6 h20 R20 _ => ⟨Or.inr rfl, ?_⟩) (fun c6 h20 F20 => ⟨Or.inl rfl, ?_⟩)
        · rw [if_neg (fun z => z c6)] at q
          exact q.1 rfl h20 R20
        · rw [if_pos c6] at q
          exact q.2 (by simp) h20 F20
      · rw [if_pos c5] at q
        exact q.2 c5 h15 F15
    · rw [if_pos c4] at q
      exact q.2 (by simp) h11 F11
  · rw [if_pos c3] at q
    exact q.2 c3 h3 F3
theorem c_readKind (ok : okE E) (ce : cE E h0) (cx : cX 10 1000 B n h0) {nm : Int} (R : RSt h0 ip mo (L ++ [hoN 0 nm 0 0 0]) p h) (p0 : 0 ≤ p) (p1 : p < n) (hl : ln L < 120) (q : RP h0 ip mo Q (knR E B n (p + 1)).1 (knR E B n (p + 1)).2.1 (L ++ [hoN (knR E B n (p + 1)).2.2 nm 0 0 0])) : Good g (d + 2) i7_readKind [LR 7 597, LI (ln L)] S0 h S0 (retI Q) := by
  have n1 := (R.1.cx cx).2.2.1
  have o2 := ok.2.1
  have b1 := bl_p (B := B) (n := n) (p := p + 1)
  have b1' := b1.2.1 (by omega)
  have hd := dg_p (B := B) (n := n) (p := bl B n (p + 1))
  have hd2 := hd.2.1 b1'
  unfold knR at q
  refine g7_readKind (fun _ => v7_readKind (fun h1 e1 => ?_))
  rw [R.2.2.1, w32_id (by omega) (by omega)] at e1
  refine c_skip cx (R.ps e1) (by omega) (by omega) (fun h2 R2 _ => ?_)
  rw [R2.2.2.1]
  refine c_endOfDigits cx R2.1 (by omega) b1' ?_
  rw [w32_id (by omega) (by omega)]
  refine ⟨fun c => ⟨fun c2 => ?_, fun c2 => ?_⟩, fun c => ?_⟩
  · rw [if_neg c, if_neg (by omega)] at q
    have hv := vl_18 (B := B) (q := bl B n (p + 1)) (e := dg B n (bl B n (p + 1))) (by omega) hd.1 hd.2.2
    refine c_takeDigits cx R2 (by omega) hd.1 hd2 c2 hd.2.2 (fun h9 R9 v9 => ?_)
    rw [v9]
    refine f_hasKind (R9.1.ce ce) ?_
    rw [v9]
    refine bn (fun c3 => ⟨ln_nn L, hl, fun h15 e15 => ?_⟩) (fun c3 => ?_)
    · rw [if_neg (fun z => z c3.2)] at q
      rw [w32_id (by omega) (by omega)] at e15
      refine q.1 rfl h15 (R9.set 2 (by decide) rfl e15 rfl (fun j hj hk => by match j, hj with
          | 0, _ => rfl
          | 1, _ => rfl
          | 2, _ => exact absurd rfl hk
          | 3, _ => rfl
          | 4, _ => rfl
          | 5, _ => rfl
          | 6, _ => rfl))
    · rw [if_pos (by omega)] at q
      exact c_fail R9.1.1 (fun h' F _ _ => ⟨Or.inl rfl, q.2 (by simp) h' F⟩)
  · rw [if_neg c, if_pos (by omega)] at q
    exact c_fail R2.1.1 (fun h' F _ _ => ⟨Or.inl rfl, q.2 (by simp) h' F⟩)
  · rw [if_pos c] at q
    exact c_fail R2.1.1 (fun h' F _ _ => ⟨Or.inl rfl, q.2 (by simp) h' F⟩)
theorem c_readHole_2 (cx : cX 10 1000 B n h0) {kn nm : Int} (R : RSt h0 ip mo (L ++ [hoN kn nm 0 0 0]) p h) (p0 : 0 ≤ p) (p1 : p ≤ n) (hl : ln L < 120) (q : RP h0 ip mo Q (hs2 B n nm kn p).1 (hs2 B n nm kn p).2.1 (L ++ [(hs2 B n nm kn p).2.2])) : L0 g (d + 3) m7_readHole (retI Q) 104 [some (LR 7 597), some (LI (ln L)), none] h := by
  have b1 := bl_p (B := B) (n := n) (p := p)
  have b1' := b1.2.1 p1
  unfold hs2 at q
  refine v7_readHole_104 (c_skip cx R p0 p1 (fun h1 R1 _ => ?_))
  rw [R1.2.2.1]
  refine c_byte cx R1.1 ⟨fun c => ?_, fun c => ?_⟩
  · rw [if_neg c] at q
    exact q.1 rfl h1 R1
  · rw [if_pos c] at q
    have c3 := byt_in (B := B) (n := n) (i := bl B n p) (by omega)
    refine c_readSpan cx R1 (by omega) (by omega) c hl ⟨fun c4 h' R' => ⟨fun z => absurd z (by decide), fun _ => ?_⟩, fun c4 h' F' => ⟨fun _ => ?_, fun z => absurd rfl z⟩⟩
    · rw [if_neg (fun z => z c4)] at q
      exact q.1 rfl h' R'
    · rw [if_pos c4] at q
      exact q.2 c4 h' F'
theorem c_readHole_1 (ok : okE E) (ce : cE E h0) (cx : cX 10 1000 B n h0) {nm : Int} (R : RSt h0 ip mo (L ++ [hoN 0 nm 0 0 0]) p h) (p0 : 0 ≤ p) (p1 : p ≤ n) (hl : ln L < 120) (q : RP h0 ip mo Q (hs1 E B n nm p).1 (hs1 E B n nm p).2.1 (L ++ [(hs1 E B n nm p).2.2])) : L0 g (d + 3) m7_readHole (retI Q) 74 [some (LR 7 597), some (LI (ln L)), none] h := by
  have b1 := bl_p (B := B) (n := n) (p := p)
  have b1' := b1.2.1 p1
  unfold hs1 at q
  refine v7_readHole_74 (c_skip cx R p0 p1 (fun h1 R1 _ => ?_))
  rw [R1.2.2.1]
  refine c_byte cx R1.1 ⟨fun c => ?_, fun c => ?_⟩
  · rw [if_neg c] at q
    exact c_readHole_2 cx R1 (by omega) b1' hl q
  · rw [if_pos c] at q
    have c3 := byt_in (B := B) (n := n) (i := bl B n p) (by omega)
    have k1 := knR_ok (E := E) (B := B) (n := n) (p := bl B n p + 1) (by omega) (by omega) ok.1
    refine c_readKind ok ce cx R1 (by omega) (by omega) hl ⟨fun c4 h' R' => ⟨fun _ => ?_, fun z => absurd z (by decide)⟩, fun c4 h' F' => ⟨fun z => absurd rfl z, fun _ => ?_⟩⟩
    · rw [if_neg (fun z => z c4)] at q
      exact c_readHole_2 cx R' k1.1 k1.2.1 hl q
    · rw [if_pos c4] at q
      exact q.2 c4 h' F'
theorem RSt.ds {h' : Hp} {L' : NL} (R : RSt h0 ip mo L p h) (D : DSt h0 mo L' h') (e : h' 597 = h 597) : RSt h0 ip mo L' p h' := ⟨D, by rw [e]; exact R.2.1, by rw [e]; exact R.2.2.1, by rw [e]; exact R.2.2.2.1, by rw [e]; exact R.2.2.2.2⟩
theorem c_readHole (ok : okE E) (ce : cE E h0) (cx : cX 10 1000 B n h0) (hmo : mo ≤ 120) (R : RSt h0 ip mo L p h) (p0 : 0 ≤ p) (p1 : p < n) (q1 : ¬ ln L < mo → ∀ h' : Hp, RFt h0 4 p h' → Q 0 h') (q : ln L < mo → RP h0 ip mo Q (hoR E B n (p + 1)).1 (hoR E B n (p + 1)).2.1 (L ++ [(hoR E B n (p + 1)).2.2])) : Good g (d + 4) i7_readHole [LR 7 597] S0 h S0 (retI Q) := by
  have n1 := (R.1.cx cx).2.2.1
  have l0 := ln_nn L
  refine g7_readHole (v7_readHole ?_)
  rw [R.2.2.1]
  refine c_addNode (x := hoN 0 (-1) 0 0 0) hmo R.1 rfl rfl rfl rfl rfl rfl rfl (fun c h1 D1 e1 => ⟨fun _ h5 e5 => ?_, fun z => absurd z (by omega)⟩) (fun c h1 F1 => ⟨fun z => absurd rfl z, fun _ => q1 c h1 F1⟩)
  have R1 := R.ds D1 e1
  have q := q c
  rw [R1.2.2.1, w32_id (by omega) (by omega)] at e5
  have R5 := R1.ps e5
  rw [R5.2.2.1]
  unfold hoR at q
  refine c_byte cx R5.1 ⟨fun c2 => ?_, fun c2 => ⟨fun c3 => ?_, fun c3 => ⟨l0, by omega, fun h11 e11 h12 e12 => ?_⟩⟩⟩
  · rw [if_neg (by omega)] at q
    exact c_readHole_1 ok ce cx R5 (by omega) (by omega) (by omega) q
  · rw [if_neg (by omega)] at q
    exact c_readHole_1 ok ce cx R5 (by omega) (by omega) (by omega) q
  · rw [if_pos (by omega)] at q
    have c4 := byt_in (B := B) (n := n) (i := p + 1) (by omega)
    rw [w32_id (by omega) (by omega)] at e11
    have R11 : RSt h0 ip mo (L ++ [hoN 0 (byt B n (p + 1) - 48) 0 0 0]) (p + 1) h11 := R5.set 3 (by decide) rfl e11 rfl (fun j hj hk => by match j, hj with
      | 0, _ => rfl
      | 1, _ => rfl
      | 2, _ => rfl
      | 3, _ => exact absurd rfl hk
      | 4, _ => rfl
      | 5, _ => rfl
      | 6, _ => rfl)
    rw [R11.2.2.1, w32_id (by omega) (by omega)] at e12
    exact c_readHole_1 ok ce cx (R11.ps e12) (by omega) (by omega) (by omega) q
theorem c_readNumberNode (cx : cX 10 1000 B n h0) (hmo : mo ≤ 120) (R : RSt h0 ip mo L p h) (p0 : 0 ≤ p) (p1 : p ≤ n) (q1 : (nuR B n p).1 = 3 → ∀ h' : Hp, RFt h0 3 (nuR B n p).2.1 h' → Q 0 h') (q2 : (nuR B n p).1 ≠ 3 → ¬ ln L < mo → ∀ h' : Hp, RFt h0 4 p h' → Q 0 h') (q : (nuR B n p).1 ≠ 3 → ln L < mo → RP h0 ip mo Q (nuR B n p).1 (nuR B n p).2.1 (L ++ [nuN (nuR B n p).2.2])) : Good g (d + 3) i7_readNumberNode [LR 7 597] S0 h S0 (retI Q) := by
  have l0 := ln_nn L
  refine g7_readNumberNode (v7_readNumberNode ?_)
  rw [R.2.2.1]
  refine c_readNumber cx R p0 p1 (fun c h1 R1 v1 => ⟨fun _ => ?_, fun z => absurd z (by rw [R1.2.2.2.1]; decide)⟩) (fun c h1 D1 F1 => ⟨fun z => ?_, fun z => ?_⟩)
  · refine c_addNode (x := nuN 0) hmo R1.1 rfl rfl rfl rfl rfl rfl rfl (fun c2 h5 D5 e5 => ⟨fun z => absurd z (by omega), fun _ => ⟨fun _ => ⟨l0, by omega, fun h10 e10 => ?_⟩, fun z => absurd z (by decide)⟩⟩) (fun c2 h5 F5 => ⟨fun _ => q2 (by omega) c2 h5 F5, fun z => absurd rfl z⟩)
    rw [e5, v1] at e10
    exact (q (by omega) c2).1 c h10 ((R1.ds D5 e5).set 5 (by decide) rfl e10 rfl (fun j hj hk => by match j, hj with
      | 0, _ => rfl
      | 1, _ => rfl
      | 2, _ => rfl
      | 3, _ => rfl
      | 4, _ => rfl
      | 5, _ => exact absurd rfl hk
      | 6, _ => rfl))
  · rw [F1.2.1] at z
    refine c_addNode (x := nuN 0) hmo D1 rfl rfl rfl rfl rfl rfl rfl (fun c2 h5 D5 e5 => ⟨fun z => absurd z (by omega), fun _ => ⟨fun z => absurd rfl z, fun _ => ?_⟩⟩) (fun c2 h5 F5 => ⟨fun _ => q2 z c2 h5 F5, fun z => absurd rfl z⟩)
    exact (q z c2).2 c h5 ⟨D5.1, by rw [e5]; exact F1.2.1, by rw [e5]; exact F1.2.2⟩
  · rw [F1.2.1] at z
    rw [z] at F1
    exact q1 z h1 F1
theorem c_readBehindPart (cx : cX 10 1000 B n h0) (k : Nat) (R : RSt h0 ip mo L p h) (p0 : 0 ≤ p) (p1 : p ≤ n) (q1 : byt B n (bl B n p) = due k → ∀ h' : Hp, RSt h0 ip mo L (bl B n p + 1) h' → Q 1 h') (q2 : byt B n (bl B n p) ≠ due k → ∀ h' : Hp, RFt h0 (if byt B n (bl B n p) = oth k then 6 else 1) (bl B n p) h' → Q 0 h') {x : Int} (hx : x = if k = 0 then 1 else 0) : Good g (d + 2) i7_readBehindPart [LR 7 597, LI x] S0 h S0 (retI Q) := by
  have n1 := (R.1.cx cx).2.2.1
  have b1 := bl_p (B := B) (n := n) (p := p)
  have b1' := b1.2.1 p1
  unfold due at q1 q2
  unfold oth at q2
  refine g7_readBehindPart (fun _ => v7_readBehindPart (c_skip cx R p0 p1 (fun h1 R1 _ => ?_)))
  have F := fun {f q0 : Int} (q : ∀ h' : Hp, RFt h0 f q0 h' → Q 0 h') => c_fail (g := g) (d := d) (h := h1) (h0 := h0) (f := f) (q0 := q0) (Q := fun r h' => (r = 0 ∨ r = 1) ∧ Q r h') R1.1.1 (fun h' F _ _ => ⟨Or.inl rfl, q h' F⟩)
  rw [R1.2.2.1]
  refine ⟨fun z => c_byte cx R1.1 ?_, fun z => c_byte cx R1.1 ?_⟩
  · have k0 : k ≠ 0 := fun e => by rw [if_pos e] at hx; omega
    rw [if_neg k0] at q1 q2
    rw [if_neg k0] at q2
    rw [R1.2.2.1]
    refine ⟨fun c h8 e8 => ?_, fun c => ⟨fun c2 => ?_, fun c2 => ?_⟩⟩
    · have c3 := byt_in (B := B) (n := n) (i := bl B n p) (by omega)
      rw [w32_id (by omega) (by omega)] at e8
      exact q1 c h8 (R1.ps e8)
    · have := q2 c
      rw [if_neg c2] at this
      exact F this
    · have := q2 c
      rw [if_pos c2] at this
      exact F this
  · have k0 : k = 0 := Classical.byContradiction (fun e => by rw [if_neg e] at hx; omega)
    rw [if_pos k0] at q1 q2
    rw [if_pos k0] at q2
    rw [R1.2.2.1]
    refine ⟨fun c h8 e8 => ?_, fun c => ⟨fun c2 => ?_, fun c2 => ?_⟩⟩
    · have c3 := byt_in (B := B) (n := n) (i := bl B n p) (by omega)
      rw [w32_id (by omega) (by omega)] at e8
      exact q1 c h8 (R1.ps e8)
    · have := q2 c
      rw [if_neg c2] at this
      exact F this
    · have := q2 c
      rw [if_pos c2] at this
      exact F this
end
