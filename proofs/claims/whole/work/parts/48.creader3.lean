/-! THE CLASS'S READER: trees -/
/-- what readNode owes at a fuel -/
def cRN (g : Gl) (h0 : Hp) (E : Ev) (B : Int → Int) (n : Int) (ip : Bool) (mo : Int) (f : Nat) : Prop := ∀ (w : Nat) (p : Int) (L : NL) (h : Hp) (d : Nat) (Q : Int → Hp → Prop), 13 ≤ f + w → w ≤ 12 → RSt h0 ip mo L p h → 0 ≤ p → p ≤ n → ln L ≤ mo → RP h0 ip mo Q (rdN E B n ip mo f w p L).1 (rdN E B n ip mo f w p L).2.1 (rdN E B n ip mo f w p L).2.2 → Good g (d + 3 * f + 4) i7_readNode [LR 7 597, LI w] S0 h S0 (retI Q)
section
variable {g : Gl} {h h0 : Hp} {E : Ev} {B : Int → Int} {n : Int} {ip : Bool} {mo : Int} {L : NL} {p : Int} {Q : Int → Hp → Prop}
theorem c_readParts_l (ok : okE E) (cx : cX 10 1000 B n h0) {f w P : Nat} (hP : P ≤ 4) (hf : 13 ≤ f + (w + 1)) (hw : w + 1 ≤ 12) (ih : cRN g h0 E B n ip mo f) (d : Nat) : ∀ (k : Nat) (p : Int) (L : NL) (h : Hp), k ≤ P → RSt h0 ip mo L p h → 0 ≤ p → p ≤ n → ln L ≤ mo → RP h0 ip mo Q (rdP B n (rdN E B n ip mo f (w + 1)) k p L).1 (rdP B n (rdN E B n ip mo f (w + 1)) k p L).2.1 (rdP B n (rdN E B n ip mo f (w + 1)) k p L).2.2 → L0 g (d + 3 * f + 4) m7_readParts (retI Q) 28 [some (LR 7 597), some (LI P), some (LI w), some (LI (P - k + 1))] h
  | 0, p, L, h, hk, R, p0, p1, hl, q => v7_readParts_28 ⟨fun _ => q.1 rfl h R, fun c => absurd (by omega) c⟩
  | k + 1, p, L, h, hk, R, p0, p1, hl, q => by
    have r := rdN_ok (B := B) (n := n) (ip := ip) (mo := mo) ok f (w + 1) p L hf hw p0 p1 hl
    unfold rdP at q
    refine v7_readParts_28 ⟨fun c => absurd c (by omega), fun _ => ?_⟩
    rw [w32_id (x := (w : Int) + 1) (by omega) (by omega), show (w : Int) + 1 = ((w + 1 : Nat) : Int) by omega]
    refine ih (w + 1) p L h d _ hf hw R p0 p1 hl ⟨fun c h2 R2 => ⟨fun z => absurd z (by decide), fun _ => ?_⟩, fun c h2 F2 => ⟨fun _ => ?_, fun z => absurd rfl z⟩⟩
    · rw [if_neg (fun z => z c)] at q
      obtain ⟨T, eT, _, _, lt⟩ := r.2.2.2.2 c
      have b1 := bl_p (B := B) (n := n) (p := (rdN E B n ip mo f (w + 1) p L).2.1)
      have b1' := b1.2.1 r.2.1
      have r0 := r.1
      have go : ∀ {Q' : Int → Hp → Prop} {x : Int}, (x = if k = 0 then 1 else 0) → (∀ h7 : Hp, L0 g (d + 3 * f + 4) m7_readParts (retI Q) 28 [some (LR 7 597), some (LI P), some (LI w), some (LI (P - k + 1))] h7 → Q' 1 h7) → (∀ h7 : Hp, Q 0 h7 → Q' 0 h7) → Good g (d + 3 * f + 4) i7_readBehindPart [LR 7 597, LI x] S0 h2 S0 (retI Q') := by
        intro Q' x hx g1 g2
        refine c_readBehindPart (d := d + 3 * f + 2) cx k R2 r.1 r.2.1 (fun c2 h7 R7 => g1 h7 ?_) (fun c2 h7 F7 => g2 h7 ?_) hx
        · rw [if_pos c2] at q
          have c3 := byt_in (B := B) (n := n) (i := bl B n (rdN E B n ip mo f (w + 1) p L).2.1) (by rw [c2]; exact due_nn k)
          exact c_readParts_l ok cx hP hf hw ih d k _ _ h7 (by omega) R7 (by omega) (by omega) (by rw [eT]; exact lt) q
        · rw [if_neg c2] at q
          refine q.2 ?_ h7 F7
          show (if _ then (6 : Int) else 1) ≠ 0
          split <;> decide
      rw [show w32 ((P : Int) - ((k + 1 : Nat) : Int) + 1 + 1) = (P : Int) - k + 1 by rw [w32_id (by omega) (by omega)]; omega]
      refine ⟨fun c2 => go (by rw [if_neg (by omega)]) (fun h7 X => ⟨fun _ => X, fun z => absurd z (by decide)⟩) (fun h7 X => ⟨fun z => absurd rfl z, fun _ => X⟩), fun c2 => go (by rw [if_pos (by omega)]) (fun h7 X => ⟨fun _ => X, fun z => absurd z (by decide)⟩) (fun h7 X => ⟨fun z => absurd rfl z, fun _ => X⟩)⟩
    · rw [if_pos c] at q
      exact q.2 c h2 F2
theorem c_readNode (ok : okE E) (ce : cE E h0) (cx : cX 10 1000 B n h0) (hmo : mo ≤ 120) : ∀ f : Nat, cRN g h0 E B n ip mo f
  | 0 => fun w p L h d Q hf hw R p0 p1 hl q => by omega
  | f + 1 => fun w p L h d Q hf hw R p0 p1 hl q => by
    have ih := c_readNode ok ce cx hmo f
    have n1 := (R.1.cx cx).2.2.1
    have l0 := ln_nn L
    have o4 := ok.2.2.2.1
    have b1 := bl_p (B := B) (n := n) (p := p)
    have b1' := b1.2.1 p1
    unfold rdN at q
    refine g7_readNode (d := d + 3 * f + 6) (fun _ => v7_readNode (c_skip (d := d + 3 * f + 5) cx R p0 p1 (fun h1 R1 _ => ?_)))
    rw [R1.2.2.1]
    refine c_byte (d := d + 3 * f + 5) cx R1.1 ⟨fun _ => ?_, fun c => absurd (by omega) c⟩
    generalize hc : byt B n (bl B n p) = c at q ⊢
    have fl : ∀ {Q' : Int → Hp → Prop} {a b : Int} {h5 : Hp} {D : Nat}, (∀ h' : Hp, RFt h0 a b h' → Q' 0 h') → (∀ a : Int, a ≠ 597 → ¬ (24 ≤ a ∧ a ≤ 31) → h5 a = h0 a) → Good g (D + 1) i7_fail [LR 7 597, LI a, LI b] S0 h5 S0 (retI (fun r h' => (r = 0 ∨ r = 1) ∧ Q' r h')) := fun q F => c_fail F (fun h' F _ _ => ⟨Or.inl rfl, q h' F⟩)
    -- what stands behind a letter
    have rest : ¬ (97 ≤ c ∧ c ≤ 122) → L0 g (d + 3 * f + 6) m7_readNode (retI Q) 54 [some (LR 7 597), some (LI w), some (LI c)] h1 := by
      intro c1
      rw [if_neg c1] at q
      have nn : (c = 45 ∨ 48 ≤ c ∧ c ≤ 57) → ∀ {Q' : Int → Hp → Prop}, (∀ r h', Q r h' → (r = 0 ∨ r = 1) → Q' r h') → Good g (d + 3 * f + 6) i7_readNumberNode [LR 7 597] S0 h1 S0 (retI Q') := by
        intro c2 Q' hQ
        rw [if_pos c2] at q
        have k3 : (nuR B n (bl B n p)).1 = 3 → (nuR B n (bl B n p)).2.1 = bl B n p := by
          unfold nuR
          split
          · exact fun _ => rfl
          · split
            · exact fun z => absurd z (by simp)
            · exact fun z => absurd z (by simp)
        refine c_readNumberNode (d := d + 3 * f + 3) cx hmo R1 (by omega) b1' (fun c3 h' F => hQ _ _ ?_ (Or.inl rfl)) (fun c3 c4 h' F => hQ _ _ ?_ (Or.inl rfl)) (fun c3 c4 => ⟨fun c5 h' R' => hQ _ _ ?_ (Or.inr rfl), fun c5 h' F' => hQ _ _ ?_ (Or.inl rfl)⟩)
        · rw [if_pos c3] at q
          rw [k3 c3] at F
          exact q.2 (by simp) h' F
        · rw [if_neg c3, if_pos c4] at q
          exact q.2 (by simp) h' F
        · rw [if_neg c3, if_neg (fun z => z c4), if_neg (fun z => z c5)] at q
          exact q.1 rfl h' R'
        · rw [if_neg c3, if_neg (fun z => z c4), if_pos c5] at q
          exact q.2 c5 h' F'
      have b77 : ¬ (c = 45 ∨ 48 ≤ c ∧ c ≤ 57) → L0 g (d + 3 * f + 6) m7_readNode (retI Q) 77 [some (LR 7 597), some (LI w), some (LI c)] h1 := by
        intro c2
        rw [if_neg c2] at q
        have ov : ∀ (s : Int), (s = 3 ∧ c = 46 ∨ s = 4 ∧ c = 33) → ip = true → ∀ {Q' : Int → Hp → Prop}, (∀ r h', Q r h' → (r = 0 ∨ r = 1) → Q' r h') → Good g (d + 3 * f + 6) i7_readOver [LR 7 597, LI s, LI w] S0 h1 S0 (retI Q') := by
          intro s hs hip Q' hQ
          have c9 := byt_in (B := B) (n := n) (i := bl B n p) (by omega)
          rw [if_neg (by omega)] at q
          refine g7_readOver (d := d + 3 * f + 5) (fun _ _ => v7_readOver ?_)
          rw [R1.2.2.1]
          have e6 : s = 3 ∨ s = 4 := by omega
          refine c_addNode (x := ovN s) hmo R1.1 rfl rfl rfl rfl rfl rfl rfl (fun c3 h2 D2 e2 => ⟨fun _ => ⟨fun c4 h6 e6 => ⟨fun z => ?_, fun z => ?_⟩, fun c4 => ?_⟩, fun z => absurd z (by omega)⟩) (fun c3 h2 F2 => ⟨fun z => absurd rfl z, fun _ => hQ _ _ ?_ (Or.inl rfl)⟩)
          · -- !
            have R2 := R1.ds D2 e2
            rw [R2.2.2.1, w32_id (by omega) (by omega)] at e6
            have R6 := R2.ps e6
            have c33 : c = 33 := by omega
            have s4 : s = 4 := by omega
            subst s4
            rw [if_neg (fun z => by omega), if_pos ⟨hip, c33⟩, if_neg (fun z => z c3), if_neg (by omega)] at q
            rw [w32_id (by omega) (by omega), show (w : Int) + 1 = ((w + 1 : Nat) : Int) by omega, show d + 3 * f + 3 + 2 = d + 1 + 3 * f + 4 by omega]
            refine ih (w + 1) _ _ h6 (d + 1) _ (by omega) (by omega) R6 (by omega) (by omega) (by rw [ln_app, ln_1]; omega) ⟨fun z h' R' => ⟨Or.inr rfl, hQ _ _ (q.1 z h' R') (Or.inr rfl)⟩, fun z h' F' => ⟨Or.inl rfl, hQ _ _ (q.2 z h' F') (Or.inl rfl)⟩⟩
          · have R2 := R1.ds D2 e2
            rw [R2.2.2.1, w32_id (by omega) (by omega)] at e6
            have R6 := R2.ps e6
            have c46 : c = 46 := by omega
            subst z
            rw [if_pos ⟨hip, c46⟩, if_neg (fun z => z c3), if_neg (by omega)] at q
            rw [R6.2.2.1]
            refine c_byte cx R6.1 ⟨fun c5 h15 e15 => ?_, fun c5 => ?_⟩
            · rw [if_neg (fun z => z c5)] at q
              have c8 := byt_in (B := B) (n := n) (i := bl B n p + 1) (by omega)
              rw [R6.2.2.1, w32_id (by omega) (by omega), show bl B n p + 1 + 1 = bl B n p + 2 by omega] at e15
              rw [w32_id (by omega) (by omega), show (w : Int) + 1 = ((w + 1 : Nat) : Int) by omega, show d + 3 * f + 3 + 2 = d + 1 + 3 * f + 4 by omega]
              refine ih (w + 1) _ _ h15 (d + 1) _ (by omega) (by omega) (R6.ps e15) (by omega) (by omega) (by rw [ln_app, ln_1]; omega) ⟨fun z h' R' => ⟨Or.inr rfl, hQ _ _ (q.1 z h' R') (Or.inr rfl)⟩, fun z h' F' => ⟨Or.inl rfl, hQ _ _ (q.2 z h' F') (Or.inl rfl)⟩⟩
            · rw [if_pos c5] at q
              rw [R6.2.2.1]
              exact fl (fun h' F => hQ _ _ (q.2 (by simp) h' F) (Or.inl rfl)) R6.1.1
          · have R2 := R1.ds D2 e2
            rw [R2.2.2.1]
            refine fl (fun h' F => hQ _ _ ?_ (Or.inl rfl)) D2.1
            rcases hs with ⟨_, h46⟩ | ⟨_, h33⟩
            · rw [if_pos ⟨hip, h46⟩, if_neg (fun z => z c3), if_pos (by omega)] at q
              exact q.2 (by simp) h' F
            · rw [if_neg (fun z => by omega), if_pos ⟨hip, h33⟩, if_neg (fun z => z c3), if_pos (by omega)] at q
              exact q.2 (by simp) h' F
          · rcases hs with ⟨_, h46⟩ | ⟨_, h33⟩
            · rw [if_pos ⟨hip, h46⟩, if_pos c3] at q
              exact q.2 (by simp) h2 F2
            · rw [if_neg (fun z => by omega), if_pos ⟨hip, h33⟩, if_pos c3] at q
              exact q.2 (by simp) h2 F2
        have b135 : (ip = true → c ≠ 63 ∧ c ≠ 46 ∧ c ≠ 33) → L0 g (d + 3 * f + 6) m7_readNode (retI Q) 135 [some (LR 7 597), none, none] h1 := by
          intro hno
          rw [if_neg (fun z => (hno z.1).1 z.2), if_neg (fun z => (hno z.1).2.1 z.2), if_neg (fun z => (hno z.1).2.2 z.2)] at q
          refine v7_readNode_135 ?_
          rw [R1.2.2.1]
          exact fl (fun h' F => q.2 (by simp) h' F) R1.1.1
        refine v7_readNode_77 (fun _ => ?_)
        rw [R1.2.1]
        refine bz (fun hip => ?_) (fun hip => ⟨fun c63 => ?_, fun c63 => ?_⟩)
        · refine v7_readNode_95 (fun _ => ?_)
          rw [R1.2.1]
          refine bz (fun hip => ?_) (fun z => absurd z hip)
          refine v7_readNode_115 (fun _ => ?_)
          rw [R1.2.1]
          refine bz (fun hip => b135 (fun z => absurd z hip)) (fun z => absurd z hip)
        · refine v7_readNode_95 (fun _ => ?_)
          rw [R1.2.1]
          refine bz (fun z => absurd hip z) (fun _ => ⟨fun c46 => ?_, fun c46 => ov 3 (Or.inl ⟨rfl, c46⟩) hip (fun r h' X z => ⟨z, X⟩)⟩)
          refine v7_readNode_115 (fun _ => ?_)
          rw [R1.2.1]
          exact bz (fun z => absurd hip z) (fun _ => ⟨fun c33 => b135 (fun _ => ⟨c63, c46, c33⟩), fun c33 => ov 4 (Or.inr ⟨rfl, c33⟩) hip (fun r h' X z => ⟨z, X⟩)⟩)
        · rw [if_pos ⟨hip, c63⟩] at q
          have c9 := byt_in (B := B) (n := n) (i := bl B n p) (by omega)
          refine c_readHole (d := d + 3 * f + 2) ok ce cx hmo R1 (by omega) (by omega) (fun c3 h' F => ⟨Or.inl rfl, ?_⟩) (fun c3 => ⟨fun c4 h' R' => ⟨Or.inr rfl, ?_⟩, fun c4 h' F' => ⟨Or.inl rfl, ?_⟩⟩)
          · rw [if_pos c3] at q
            exact q.2 (by simp) h' F
          · rw [if_neg (fun z => z c3), if_neg (fun z => z c4)] at q
            exact q.1 rfl h' R'
          · rw [if_neg (fun z => z c3), if_pos c4] at q
            exact q.2 c4 h' F'
      exact v7_readNode_54 ⟨fun c2 => nn (Or.inl c2) (fun r h' X z => ⟨z, X⟩), fun c2 => ⟨fun c3 => b77 (by omega), fun c3 => ⟨fun c4 => b77 (by omega), fun c4 => nn (Or.inr (by omega)) (fun r h' X z => ⟨z, X⟩)⟩⟩⟩
    refine ⟨fun c1 => rest (by omega), fun c1 => ⟨fun c2 => rest (by omega), fun c2 => ?_⟩⟩
    have c9 := byt_in (B := B) (n := n) (i := bl B n p) (by omega)
    have b2 := bl_p (B := B) (n := n) (p := bl B n p + 1)
    have b2' := b2.2.1 (by omega)
    rw [if_pos (by omega)] at q
    rw [w32_id (by omega) (by omega)]
    refine g7_readHead (d := d + 3 * f + 5) (fun _ _ => v7_readHead (f_hasHead (R1.1.ce ce) (bn (fun c3 => ?_) (fun c3 => ?_))))
    · rw [if_neg (fun z => z c3.2)] at q
      rw [R1.2.2.1]
      refine c_addNode (x := mkN 0 (-1) 0 (-1) 0 0 0 (E 3 (c - 97)) (E 4 (c - 97)) (E 2 (c - 97))) hmo R1.1 rfl rfl rfl rfl rfl rfl rfl (fun c4 h5 D5 e5 => ⟨fun _ => ⟨l0, by omega, fun h9 e9 h10 e10 => ?_⟩, fun z => absurd z (by omega)⟩) (fun c4 h5 F5 => ⟨fun z => absurd rfl z, fun _ => ?_⟩)
      · rw [if_neg (fun z => z c4)] at q
        have R9 : RSt h0 ip mo (L ++ [hdN E (c - 97)]) _ h9 := (R1.ds D5 e5).set 1 (by decide) rfl e9 rfl (fun j hj hk => by match j, hj with
          | 0, _ => rfl
          | 1, _ => exact absurd rfl hk
          | 2, _ => rfl
          | 3, _ => rfl
          | 4, _ => rfl
          | 5, _ => rfl
          | 6, _ => rfl)
        rw [R9.2.2.1, w32_id (by omega) (by omega)] at e10
        refine c_skip cx (R9.ps e10) (by omega) (by omega) (fun h11 R11 _ => ?_)
        have ce11 := R11.1.ce ce
        have hp := ok.2.2.2.2.2 (c - 97) c3.1 c3.2
        rw [R11.2.2.1]
        refine c_byte cx R11.1 ⟨fun c5 => ⟨c3.1, by omega, ?_⟩, fun c5 => ⟨c3.1, by omega, ?_⟩⟩
        · rw [if_neg c5] at q
          rw [(ce11.2.2.2.2 _ c3.1 c3.2).2.1, R11.2.2.1]
          refine ⟨fun c6 => ⟨Or.inr rfl, ?_⟩, fun c6 => fl (fun h' F => ⟨Or.inl rfl, ?_⟩) R11.1.1⟩
          · rw [if_neg (by omega)] at q
            exact q.1 rfl h11 R11
          · rw [if_pos (by omega)] at q
            exact q.2 (by simp) h' F
        · rw [if_pos c5] at q
          have c8 := byt_in (B := B) (n := n) (i := bl B n (bl B n p + 1)) (by omega)
          rw [(ce11.2.2.2.2 _ c3.1 c3.2).2.1, R11.2.2.1]
          refine ⟨fun c6 => fl (fun h' F => ⟨Or.inl rfl, ?_⟩) R11.1.1, fun c6 => ?_⟩
          · rw [if_pos (by omega)] at q
            exact q.2 (by simp) h' F
          · rw [if_neg (fun z => z (by omega))] at q
            refine g7_readParts (d := d + 3 * f + 4) (fun _ _ => v7_readParts ⟨fun c7 h2 e2 => ?_, fun c7 => ?_⟩)
            · rw [if_neg (by omega)] at q
              rw [R11.2.2.1, w32_id (by omega) (by omega)] at e2
              have X := c_readParts_l (P := (E 3 (c - 97)).toNat) (Q := fun r h' => (r = 0 → (((0 : Int) = 0 ∨ (0 : Int) = 1) ∧ Q 0 h')) ∧ (¬ r = 0 → (((1 : Int) = 0 ∨ (1 : Int) = 1) ∧ Q 1 h'))) ok cx (by omega) (show 13 ≤ f + (w + 1) by omega) (by omega) ih d (E 3 (c - 97)).toNat _ _ h2 (Nat.le_refl _) (R11.ps e2) (by omega) (by omega) (by rw [ln_app, ln_1]; omega) ⟨fun z h' R' => ⟨fun z => absurd z (by decide), fun _ => ⟨Or.inr rfl, q.1 z h' R'⟩⟩, fun z h' F' => ⟨fun _ => ⟨Or.inl rfl, q.2 z h' F'⟩, fun z => absurd rfl z⟩⟩
              rw [show (((E 3 (c - 97)).toNat : Nat) : Int) = E 3 (c - 97) by omega, show E 3 (c - 97) - E 3 (c - 97) + 1 = 1 by omega] at X
              exact X
            · rw [if_pos (by omega)] at q
              rw [R11.2.2.1]
              exact c_fail (d := d + 3 * f + 3) R11.1.1 (fun h' F _ _ => ⟨Or.inl rfl, fun _ => ⟨Or.inl rfl, q.2 (by simp) h' F⟩, fun z => absurd rfl z⟩)
      · rw [if_pos c4] at q
        exact ⟨Or.inl rfl, q.2 (by simp) h5 F5⟩
    · rw [if_pos (by omega)] at q
      rw [R1.2.2.1]
      exact c_fail (d := d + 3 * f + 4) R1.1.1 (fun h' F _ _ => ⟨Or.inl rfl, Or.inl rfl, q.2 (by simp) h' F⟩)
end
