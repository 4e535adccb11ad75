/-! what the stretches of methods come to (written by program, wip/whole/gen_vc.py) -/
/-- the light walk of a method that makes nothing, at a place with an empty stack -/
abbrev L0 (g : Gl) (d : Nat) (M : ME) (Q : LV → Hp → Prop) (pc : Nat) (ls : Lc) (h : Hp) : Prop := LW g d M S0 S0 Q pc ls [] S0 h
theorem z4 {a : Int} (h : 4 ≤ a) : a ≠ 0 := by omega
theorem z4k {a k : Int} (h : 4 ≤ a) (hk : 0 ≤ k) : a + k ≠ 0 := by omega
theorem z4g {a k : Int} (h : 4 ≤ a) (hk : 0 ≤ k) : 4 ≤ a + k := by omega
theorem z14 {i : Int} (h : 0 ≤ i) : 35 + 14 * i ≠ 0 := by omega
theorem z14g {i : Int} (h : 0 ≤ i) : 4 ≤ 35 + 14 * i := by omega
theorem z14k {i k : Int} (h : 0 ≤ i) (hk : 0 ≤ k) : 35 + 14 * i + k ≠ 0 := by omega
theorem z14kg {i k : Int} (h : 0 ≤ i) (hk : 0 ≤ k) : 4 ≤ 35 + 14 * i + k := by omega
theorem w8_in (z : Int) : -128 ≤ w8 z ∧ w8 z < 128 := ⟨Int8.le_toInt _, Int8.toInt_lt _⟩

set_option maxRecDepth 20000 in
theorem v0_clear {g : Gl} {d : Nat} {Q : Hp → Prop} {w : Int} {h : Hp} (hw : 4 ≤ w) (v0 : ∀ h1 : Hp, h1 = hup h w 1 0 →
 ∀ h2 : Hp, h2 = hup h1 w 2 0 →
 ∀ h3 : Hp, h3 = hup h2 w 3 0 →
 ∀ h4 : Hp, h4 = hup h3 w 4 0 →
 Q h4) : L0 g d m0_clear (retV Q) 0 [some (LR 0 w)] h :=
 LW.run 40 [] k0_clear (And.intro (show w ≠ 0 from z4 hw) (And.intro (show w ≠ 0 from z4 hw) (And.intro (show w ≠ 0 from z4 hw) (And.intro (Or.inl rfl) (And.intro (show w ≠ 0 from z4 hw) (And.intro (Or.inl rfl) (And.intro rfl ((((v0 _ rfl) _ rfl) _ rfl) _ rfl))))))))
set_option maxRecDepth 20000 in
theorem v0_has {g : Gl} {d : Nat} {Q : Int → Hp → Prop} {w x1 : Int} {h : Hp} (hw : 4 ≤ w) (v0 : ((x1 < 0 → Q 0 h) ∧
 (¬ x1 < 0 → (((h w 1) ≤ x1 → Q 0 h) ∧
 (¬ (h w 1) ≤ x1 → Q 1 h))))) : L0 g d m0_has (retI Q) 0 [some (LR 0 w), some (LI x1)] h :=
 LW.run 40 [] k0_has (And.intro (fun c1 => And.intro (Or.inl rfl) (And.intro rfl (v0.1 c1))) (fun c1 => And.intro (show w ≠ 0 from z4 hw) (And.intro (fun c2 => And.intro (Or.inl rfl) (And.intro rfl ((v0.2 c1).1 c2))) (fun c2 => And.intro (Or.inr rfl) (And.intro rfl ((v0.2 c1).2 c2))))))
set_option maxRecDepth 20000 in
theorem v0_nodeOf {g : Gl} {d : Nat} {Q : Int → Hp → Prop} {w x1 x2 : Int} {h : Hp} (hw : 4 ≤ w) (v0 : 0 ≤ ((w32 ((w32 (x1 * 10)) + x2))) ∧ ((w32 ((w32 (x1 * 10)) + x2))) < lnn g (w + 1) ∧ Q (h (w + 1) (w32 ((w32 (x1 * 10)) + x2))) h) : L0 g d m0_nodeOf (retI Q) 0 [some (LR 0 w), some (LI x1), some (LI x2)] h :=
 LW.run 40 [] k0_nodeOf (And.intro (show w ≠ 0 from z4 hw) (And.intro (show (w + 1) ≠ 0 from z4k hw (by decide)) (And.intro v0.1 (And.intro v0.2.1 (And.intro rfl v0.2.2)))))
set_option maxRecDepth 20000 in
theorem v0_holds {g : Gl} {d : Nat} {Q : Int → Hp → Prop} {w : Int} {h : Hp} (hw : 4 ≤ w) (v0 : L0 g d m0_holds (retI Q) 2 [some (LR 0 w), some (LR 20 599), some (LI 0), none] h) : L0 g d m0_holds (retI Q) 0 [some (LR 0 w), some (LR 20 599), none, none] h :=
 LW.run 40 [(2, [true, true, true, false]), (12, [true, true, true, true])] k0_holds (v0)
set_option maxRecDepth 20000 in
theorem v0_holds_2 {g : Gl} {d : Nat} {Q : Int → Hp → Prop} {w y2 : Int} {h : Hp} (hw : 4 ≤ w) (v0 : (((h w 1) ≤ y2 → Q 0 h) ∧
 (¬ (h w 1) ≤ y2 → L0 g d m0_holds (retI Q) 12 [some (LR 0 w), some (LR 20 599), some (LI y2), some (LI 0)] h))) : L0 g d m0_holds (retI Q) 2 [some (LR 0 w), some (LR 20 599), some (LI y2), none] h :=
 LW.run 40 [(2, [true, true, true, false]), (12, [true, true, true, true])] k0_holds (And.intro (show w ≠ 0 from z4 hw) (And.intro (fun c1 => And.intro (Or.inl rfl) (And.intro rfl (v0.1 c1))) (fun c1 => (v0.2 c1))))
set_option maxRecDepth 20000 in
theorem v0_holds_12 {g : Gl} {d : Nat} {Q : Int → Hp → Prop} {w y2 y3 : Int} {h : Hp} (hw : 4 ≤ w) (v0 : ((10 ≤ y3 → ((¬ y3 = 10 → L0 g d m0_holds (retI Q) 2 [some (LR 0 w), some (LR 20 599), some (LI (w32 (y2 + 1))), none] h) ∧
 (y3 = 10 → Q 1 h))) ∧
 (¬ 10 ≤ y3 → Good g d i0_nodeOf [LR 0 w, LI y2, LI y3] S0 h S0 (retI (fun r5 h3 =>
 0 ≤ y3 ∧ y3 < 10 ∧ ((¬ r5 = (h3 599 y3) → ((¬ y3 = 10 → L0 g d m0_holds (retI Q) 2 [some (LR 0 w), some (LR 20 599), some (LI (w32 (y2 + 1))), none] h3) ∧
 (y3 = 10 → Q 1 h3))) ∧
 (r5 = (h3 599 y3) → L0 g d m0_holds (retI Q) 12 [some (LR 0 w), some (LR 20 599), some (LI y2), some (LI (w32 (y3 + 1)))] h3))))))) : L0 g d m0_holds (retI Q) 12 [some (LR 0 w), some (LR 20 599), some (LI y2), some (LI y3)] h :=
 LW.run 40 [(2, [true, true, true, false]), (12, [true, true, true, true])] k0_holds (And.intro (fun c1 => And.intro (fun c2 => ((v0.1 c1).1 c2)) (fun c2 => And.intro (Or.inr rfl) (And.intro rfl ((v0.1 c1).2 c2)))) (fun c1 => And.intro (show w ≠ 0 from z4 hw) (And.intro (Int.le_refl _) (Good.mI (v0.2 c1) (fun r5 h3 v4 => And.intro (show (599 : Int) ≠ 0 by decide) (And.intro v4.1 (And.intro v4.2.1 (And.intro (fun c6 => And.intro (fun c7 => ((v4.2.2.1 c6).1 c7)) (fun c7 => And.intro (Or.inr rfl) (And.intro rfl ((v4.2.2.1 c6).2 c7)))) (fun c6 => (v4.2.2.2 c6))))))))))
set_option maxRecDepth 20000 in
theorem v0_keep {g : Gl} {d : Nat} {Q : Hp → Prop} {w : Int} {h : Hp} (hw : 4 ≤ w) (v0 : Good g d i0_holds [LR 0 w, LR 20 599] S0 h S0 (retI (fun r3 h1 =>
 ((r3 = 0 → (((h1 w 1) < 30 → 0 ≤ (w32 ((h1 w 1) * 10)) ∧ (w32 ((h1 w 1) * 10)) + 10 ≤ lnn g (w + 1) ∧ ∀ h6 : Hp, h6 = hcpy h1 599 0 (w + 1) (w32 ((h1 w 1) * 10)) 10 →
 ∀ h7 : Hp, h7 = hup h6 w 1 (w32 ((h6 w 1) + 1)) →
 Q h7) ∧
 (¬ (h1 w 1) < 30 → ∀ h8 : Hp, h8 = hup h1 w 4 1 →
 Q h8))) ∧
 (¬ r3 = 0 → Q h1))))) : L0 g d m0_keep (retV Q) 0 [some (LR 0 w), some (LR 20 599)] h :=
 LW.run 40 [] k0_keep (And.intro (show w ≠ 0 from z4 hw) (And.intro (Int.le_refl _) (Good.mI v0 (fun r3 h1 v2 => And.intro (fun c4 => And.intro (show w ≠ 0 from z4 hw) (And.intro (fun c5 => And.intro (show w ≠ 0 from z4 hw) (And.intro (show w ≠ 0 from z4 hw) (And.intro (show 4 ≤ (599 : Int) by decide) (And.intro (show 4 ≤ (w + 1) from z4g hw (by decide)) (And.intro (show (0 : Int) ≤ 0 by decide) (And.intro ((v2.1 c4).1 c5).1 (And.intro (show (0 : Int) ≤ 10 by decide) (And.intro (show (0 : Int) + 10 ≤ 10 by decide) (And.intro ((v2.1 c4).1 c5).2.1 (And.intro (show w ≠ 0 from z4 hw) (And.intro (show w ≠ 0 from z4 hw) (And.intro rfl ((((v2.1 c4).1 c5).2.2 _ rfl) _ rfl))))))))))))) (fun c5 => And.intro (show w ≠ 0 from z4 hw) (And.intro (Or.inr rfl) (And.intro rfl (((v2.1 c4).2 c5) _ rfl)))))) (fun c4 => And.intro rfl (v2.2 c4))))))
set_option maxRecDepth 20000 in
theorem v2_hasKind {g : Gl} {d : Nat} {Q : Int → Hp → Prop} {x1 : Int} {h : Hp} (v0 : (((lcmpI x1 0) < 0 → Q 0 h) ∧
 (¬ (lcmpI x1 0) < 0 → ((0 ≤ (lcmpI x1 (h 5 4)) → Q 0 h) ∧
 (¬ 0 ≤ (lcmpI x1 (h 5 4)) → Q 1 h))))) : L0 g d m2_hasKind (retI Q) 0 [some (LR 2 5), some (LL x1), none] h :=
 LW.run 40 [] k2_hasKind (And.intro (fun c1 => And.intro (Or.inl rfl) (And.intro rfl (v0.1 c1))) (fun c1 => And.intro (show (5 : Int) ≠ 0 by decide) (And.intro (fun c2 => And.intro (Or.inl rfl) (And.intro rfl ((v0.2 c1).1 c2))) (fun c2 => And.intro (Or.inr rfl) (And.intro rfl ((v0.2 c1).2 c2))))))
set_option maxRecDepth 20000 in
theorem v2_hasHead {g : Gl} {d : Nat} {Q : Int → Hp → Prop} {x1 : Int} {h : Hp} (v0 : ((x1 < 0 → Q 0 h) ∧
 (¬ x1 < 0 → (((h 5 5) ≤ x1 → Q 0 h) ∧
 (¬ (h 5 5) ≤ x1 → Q 1 h))))) : L0 g d m2_hasHead (retI Q) 0 [some (LR 2 5), some (LI x1)] h :=
 LW.run 40 [] k2_hasHead (And.intro (fun c1 => And.intro (Or.inl rfl) (And.intro rfl (v0.1 c1))) (fun c1 => And.intro (show (5 : Int) ≠ 0 by decide) (And.intro (fun c2 => And.intro (Or.inl rfl) (And.intro rfl ((v0.2 c1).1 c2))) (fun c2 => And.intro (Or.inr rfl) (And.intro rfl ((v0.2 c1).2 c2))))))
set_option maxRecDepth 20000 in
theorem v2_addKind {g : Gl} {d : Nat} {Q : Int → Hp → Prop} {x1 : Int} {h : Hp} (v0 : (((h 5 4) < 12 → 0 ≤ (h 5 4) ∧ ∀ h2 : Hp, h2 = hup h 6 (h 5 4) x1 →
 ∀ h3 : Hp, h3 = hup h2 5 4 (w32 ((h2 5 4) + 1)) →
 Q (w32 ((h3 5 4) - 1)) h3) ∧
 (¬ (h 5 4) < 12 → Q (-1004) h))) : L0 g d m2_addKind (retI Q) 0 [some (LR 2 5), some (LI x1)] h :=
 LW.run 40 [] k2_addKind (And.intro (show (5 : Int) ≠ 0 by decide) (And.intro (fun c1 => And.intro (show (5 : Int) ≠ 0 by decide) (And.intro (show (5 : Int) ≠ 0 by decide) (And.intro (show 4 ≤ (6 : Int) by decide) (And.intro (v0.1 c1).1 (And.intro c1 (And.intro (show (5 : Int) ≠ 0 by decide) (And.intro (show (5 : Int) ≠ 0 by decide) (And.intro (show (5 : Int) ≠ 0 by decide) (And.intro rfl (((v0.1 c1).2 _ rfl) _ rfl)))))))))) (fun c1 => And.intro rfl (v0.2 c1))))
set_option maxRecDepth 20000 in
theorem v2_addHead {g : Gl} {d : Nat} {Q : Int → Hp → Prop} {x1 x2 x3 : Int} {h : Hp} (v0 : (((h 5 5) < 20 → 0 ≤ (h 5 5) ∧ ∀ h2 : Hp, h2 = hup h 7 (h 5 5) x1 →
 0 ≤ (h2 5 5) ∧ (h2 5 5) < 20 ∧ ∀ h3 : Hp, h3 = hup h2 8 (h2 5 5) x2 →
 0 ≤ (h3 5 5) ∧ (h3 5 5) < 20 ∧ (x3 = 0 ∨ x3 = 1) ∧ ∀ h4 : Hp, h4 = hup h3 9 (h3 5 5) x3 →
 ∀ h5 : Hp, h5 = hup h4 5 5 (w32 ((h4 5 5) + 1)) →
 Q (w32 ((h5 5 5) - 1)) h5) ∧
 (¬ (h 5 5) < 20 → Q (-1004) h))) : L0 g d m2_addHead (retI Q) 0 [some (LR 2 5), some (LI x1), some (LI x2), some (LI x3)] h :=
 LW.run 40 [] k2_addHead (And.intro (show (5 : Int) ≠ 0 by decide) (And.intro (fun c1 => And.intro (show (5 : Int) ≠ 0 by decide) (And.intro (show (5 : Int) ≠ 0 by decide) (And.intro (show 4 ≤ (7 : Int) by decide) (And.intro (v0.1 c1).1 (And.intro c1 (And.intro (show (5 : Int) ≠ 0 by decide) (And.intro (show (5 : Int) ≠ 0 by decide) (And.intro (show 4 ≤ (8 : Int) by decide) (And.intro ((v0.1 c1).2 _ rfl).1 (And.intro ((v0.1 c1).2 _ rfl).2.1 (And.intro (show (5 : Int) ≠ 0 by decide) (And.intro (show (5 : Int) ≠ 0 by decide) (And.intro (show (9 : Int) ≠ 0 by decide) (And.intro (((v0.1 c1).2 _ rfl).2.2 _ rfl).1 (And.intro (((v0.1 c1).2 _ rfl).2.2 _ rfl).2.1 (And.intro (((v0.1 c1).2 _ rfl).2.2 _ rfl).2.2.1 (And.intro (show (5 : Int) ≠ 0 by decide) (And.intro (show (5 : Int) ≠ 0 by decide) (And.intro (show (5 : Int) ≠ 0 by decide) (And.intro rfl (((((v0.1 c1).2 _ rfl).2.2 _ rfl).2.2.2 _ rfl) _ rfl))))))))))))))))))))) (fun c1 => And.intro rfl (v0.2 c1))))
set_option maxRecDepth 20000 in
theorem v2_isBelow {g : Gl} {d : Nat} {Q : Int → Hp → Prop} {x1 x2 : Int} {h : Hp} (v0 : L0 g d m2_isBelow (retI Q) 5 [some (LR 2 5), none, some (LI x2), some (LI x1), some (LI 0)] h) : L0 g d m2_isBelow (retI Q) 0 [some (LR 2 5), some (LI x1), some (LI x2), none, none] h :=
 LW.run 40 [(5, [true, false, true, true, true])] k2_isBelow (v0)
set_option maxRecDepth 20000 in
theorem v2_isBelow_5 {g : Gl} {d : Nat} {Q : Int → Hp → Prop} {x2 y3 y4 : Int} {h : Hp} (v0 : ((12 ≤ y4 → Q 0 h) ∧
 (¬ 12 ≤ y4 → Good g d i2_hasKind [LR 2 5, LL y3] S0 h S0 (retI (fun r4 h2 =>
 ((r4 = 0 → Q 0 h2) ∧
 (¬ r4 = 0 → ((¬ y3 = x2 → 0 ≤ y3 ∧ y3 < 12 ∧ L0 g d m2_isBelow (retI Q) 5 [some (LR 2 5), none, some (LI x2), some (LI (h2 6 y3)), some (LI (w32 (y4 + 1)))] h2) ∧
 (y3 = x2 → Q 1 h2))))))))) : L0 g d m2_isBelow (retI Q) 5 [some (LR 2 5), none, some (LI x2), some (LI y3), some (LI y4)] h :=
 LW.run 40 [(5, [true, false, true, true, true])] k2_isBelow (And.intro (fun c1 => And.intro (Or.inl rfl) (And.intro rfl (v0.1 c1))) (fun c1 => And.intro (show (5 : Int) ≠ 0 by decide) (And.intro (Int.le_refl _) (Good.mI (v0.2 c1) (fun r4 h2 v3 => And.intro (fun c5 => And.intro (Or.inl rfl) (And.intro rfl (v3.1 c5))) (fun c5 => And.intro (fun c6 => And.intro (show (5 : Int) ≠ 0 by decide) (And.intro (show (6 : Int) ≠ 0 by decide) (And.intro ((v3.2 c5).1 c6).1 (And.intro ((v3.2 c5).1 c6).2.1 (((v3.2 c5).1 c6).2.2))))) (fun c6 => And.intro (Or.inr rfl) (And.intro rfl ((v3.2 c5).2 c6)))))))))
set_option maxRecDepth 20000 in
theorem v2_someHeadBelow {g : Gl} {d : Nat} {Q : Int → Hp → Prop} {x1 : Int} {h : Hp} (v0 : L0 g d m2_someHeadBelow (retI Q) 2 [some (LR 2 5), some (LI x1), some (LI 0)] h) : L0 g d m2_someHeadBelow (retI Q) 0 [some (LR 2 5), some (LI x1), none] h :=
 LW.run 40 [(2, [true, true, true])] k2_someHeadBelow (v0)
set_option maxRecDepth 20000 in
theorem v2_someHeadBelow_2 {g : Gl} {d : Nat} {Q : Int → Hp → Prop} {x1 y2 : Int} {h : Hp} (v0 : (((h 5 5) ≤ y2 → Q 0 h) ∧
 (¬ (h 5 5) ≤ y2 → 0 ≤ y2 ∧ y2 < 20 ∧ Good g d i2_isBelow [LR 2 5, LI (h 7 y2), LI x1] S0 h S0 (retI (fun r4 h2 =>
 ((r4 = 0 → L0 g d m2_someHeadBelow (retI Q) 2 [some (LR 2 5), some (LI x1), some (LI (w32 (y2 + 1)))] h2) ∧
 (¬ r4 = 0 → Q 1 h2))))))) : L0 g d m2_someHeadBelow (retI Q) 2 [some (LR 2 5), some (LI x1), some (LI y2)] h :=
 LW.run 40 [(2, [true, true, true])] k2_someHeadBelow (And.intro (show (5 : Int) ≠ 0 by decide) (And.intro (fun c1 => And.intro (Or.inl rfl) (And.intro rfl (v0.1 c1))) (fun c1 => And.intro (show (5 : Int) ≠ 0 by decide) (And.intro (show (7 : Int) ≠ 0 by decide) (And.intro (v0.2 c1).1 (And.intro (v0.2 c1).2.1 (And.intro (show (5 : Int) ≠ 0 by decide) (And.intro (Int.le_refl _) (Good.mI (v0.2 c1).2.2 (fun r4 h2 v3 => And.intro (fun c5 => (v3.1 c5)) (fun c5 => And.intro (Or.inr rfl) (And.intro rfl (v3.2 c5)))))))))))))
set_option maxRecDepth 20000 in
theorem v2_kindOfNode {g : Gl} {d : Nat} {Q : Int → Hp → Prop} {x1 x2 : Int} {h : Hp} (hx1 : 4 ≤ x1) (v0 : 0 ≤ x2 ∧ x2 < lnn g (x1 + 2) ∧ Good g d i2_hasHead [LR 2 5, LI (h (x1 + 2) x2)] S0 h S0 (retI (fun r3 h1 =>
 ((r3 = 0 → Q 0 h1) ∧
 (¬ r3 = 0 → 0 ≤ ((h1 (x1 + 2) x2)) ∧ ((h1 (x1 + 2) x2)) < 20 ∧ Q (h1 7 (h1 (x1 + 2) x2)) h1))))) : L0 g d m2_kindOfNode (retI Q) 0 [some (LR 2 5), some (LR 5 x1), some (LI x2)] h :=
 LW.run 40 [] k2_kindOfNode (And.intro (show x1 ≠ 0 from z4 hx1) (And.intro (show (x1 + 2) ≠ 0 from z4k hx1 (by decide)) (And.intro v0.1 (And.intro v0.2.1 (And.intro (show (5 : Int) ≠ 0 by decide) (And.intro (Int.le_refl _) (Good.mI v0.2.2 (fun r3 h1 v2 => And.intro (fun c4 => And.intro rfl (v2.1 c4)) (fun c4 => And.intro (show (5 : Int) ≠ 0 by decide) (And.intro (show x1 ≠ 0 from z4 hx1) (And.intro (show (x1 + 2) ≠ 0 from z4k hx1 (by decide)) (And.intro v0.1 (And.intro v0.2.1 (And.intro (show (7 : Int) ≠ 0 by decide) (And.intro (v2.2 c4).1 (And.intro (v2.2 c4).2.1 (And.intro rfl (v2.2 c4).2.2)))))))))))))))))
set_option maxRecDepth 20000 in
theorem v2_partsOfNode {g : Gl} {d : Nat} {Q : Int → Hp → Prop} {x1 x2 : Int} {h : Hp} (hx1 : 4 ≤ x1) (v0 : 0 ≤ x2 ∧ x2 < lnn g (x1 + 1) ∧ ((¬ (h (x1 + 1) x2) = 0 → (((h (x1 + 1) x2) = 3 → Q 1 h) ∧
 (¬ (h (x1 + 1) x2) = 3 → ((¬ (h (x1 + 1) x2) = 4 → Q 0 h) ∧
 ((h (x1 + 1) x2) = 4 → Q 1 h))))) ∧
 ((h (x1 + 1) x2) = 0 → x2 < lnn g (x1 + 2) ∧ Good g d i2_hasHead [LR 2 5, LI (h (x1 + 2) x2)] S0 h S0 (retI (fun r6 h4 =>
 ((r6 = 0 → Q 0 h4) ∧
 (¬ r6 = 0 → 0 ≤ ((h4 (x1 + 2) x2)) ∧ ((h4 (x1 + 2) x2)) < 20 ∧ Q (h4 8 (h4 (x1 + 2) x2)) h4))))))) : L0 g d m2_partsOfNode (retI Q) 0 [some (LR 2 5), some (LR 5 x1), some (LI x2)] h :=
 LW.run 40 [] k2_partsOfNode (And.intro (show x1 ≠ 0 from z4 hx1) (And.intro (show (x1 + 1) ≠ 0 from z4k hx1 (by decide)) (And.intro v0.1 (And.intro v0.2.1 (And.intro (fun c1 => And.intro (show x1 ≠ 0 from z4 hx1) (And.intro (show (x1 + 1) ≠ 0 from z4k hx1 (by decide)) (And.intro v0.1 (And.intro v0.2.1 (And.intro (fun c2 => And.intro rfl ((v0.2.2.1 c1).1 c2)) (fun c2 => And.intro (show x1 ≠ 0 from z4 hx1) (And.intro (show (x1 + 1) ≠ 0 from z4k hx1 (by decide)) (And.intro v0.1 (And.intro v0.2.1 (And.intro (fun c3 => And.intro rfl (((v0.2.2.1 c1).2 c2).1 c3)) (fun c3 => And.intro rfl (((v0.2.2.1 c1).2 c2).2 c3)))))))))))) (fun c1 => And.intro (show x1 ≠ 0 from z4 hx1) (And.intro (show (x1 + 2) ≠ 0 from z4k hx1 (by decide)) (And.intro v0.1 (And.intro (v0.2.2.2 c1).1 (And.intro (show (5 : Int) ≠ 0 by decide) (And.intro (Int.le_refl _) (Good.mI (v0.2.2.2 c1).2 (fun r6 h4 v5 => And.intro (fun c7 => And.intro rfl (v5.1 c7)) (fun c7 => And.intro (show (5 : Int) ≠ 0 by decide) (And.intro (show x1 ≠ 0 from z4 hx1) (And.intro (show (x1 + 2) ≠ 0 from z4k hx1 (by decide)) (And.intro v0.1 (And.intro (v0.2.2.2 c1).1 (And.intro (show (8 : Int) ≠ 0 by decide) (And.intro (v5.2 c7).1 (And.intro (v5.2 c7).2.1 (And.intro rfl (v5.2 c7).2.2))))))))))))))))))))))
set_option maxRecDepth 20000 in
theorem v2_isLooseNode {g : Gl} {d : Nat} {Q : Int → Hp → Prop} {x1 x2 : Int} {h : Hp} (hx1 : 4 ≤ x1) (v0 : 0 ≤ x2 ∧ x2 < lnn g (x1 + 2) ∧ Good g d i2_hasHead [LR 2 5, LI (h (x1 + 2) x2)] S0 h S0 (retI (fun r3 h1 =>
 ((r3 = 0 → Q 0 h1) ∧
 (¬ r3 = 0 → 0 ≤ ((h1 (x1 + 2) x2)) ∧ ((h1 (x1 + 2) x2)) < 20 ∧ (((h1 9 (h1 (x1 + 2) x2)) = 0 ∨ (h1 9 (h1 (x1 + 2) x2)) = 1) → (((h1 9 (h1 (x1 + 2) x2)) = 0 → Q 0 h1) ∧
 (¬ (h1 9 (h1 (x1 + 2) x2)) = 0 → Q 1 h1)))))))) : L0 g d m2_isLooseNode (retI Q) 0 [some (LR 2 5), some (LR 5 x1), some (LI x2)] h :=
 LW.run 40 [] k2_isLooseNode (And.intro (show x1 ≠ 0 from z4 hx1) (And.intro (show (x1 + 2) ≠ 0 from z4k hx1 (by decide)) (And.intro v0.1 (And.intro v0.2.1 (And.intro (show (5 : Int) ≠ 0 by decide) (And.intro (Int.le_refl _) (Good.mI v0.2.2 (fun r3 h1 v2 => And.intro (fun c4 => And.intro (Or.inl rfl) (And.intro rfl (v2.1 c4))) (fun c4 => And.intro (show (5 : Int) ≠ 0 by decide) (And.intro (show x1 ≠ 0 from z4 hx1) (And.intro (show (x1 + 2) ≠ 0 from z4k hx1 (by decide)) (And.intro v0.1 (And.intro v0.2.1 (And.intro (show (9 : Int) ≠ 0 by decide) (And.intro (v2.2 c4).1 (And.intro (v2.2 c4).2.1 (fun c5 => And.intro (fun c6 => And.intro (Or.inl rfl) (And.intro rfl (((v2.2 c4).2.2 c5).1 c6))) (fun c6 => And.intro (Or.inr rfl) (And.intro rfl (((v2.2 c4).2.2 c5).2 c6))))))))))))))))))))
set_option maxRecDepth 20000 in
theorem v5_has {g : Gl} {d : Nat} {Q : Int → Hp → Prop} {n x1 : Int} {h : Hp} (hn : 4 ≤ n) (v0 : ((x1 < 0 → Q 0 h) ∧
 (¬ x1 < 0 → (((h n 9) ≤ x1 → Q 0 h) ∧
 (¬ (h n 9) ≤ x1 → Q 1 h))))) : L0 g d m5_has (retI Q) 0 [some (LR 5 n), some (LI x1)] h :=
 LW.run 40 [] k5_has (And.intro (fun c1 => And.intro (Or.inl rfl) (And.intro rfl (v0.1 c1))) (fun c1 => And.intro (show n ≠ 0 from z4 hn) (And.intro (fun c2 => And.intro (Or.inl rfl) (And.intro rfl ((v0.2 c1).1 c2))) (fun c2 => And.intro (Or.inr rfl) (And.intro rfl ((v0.2 c1).2 c2))))))
set_option maxRecDepth 20000 in
theorem v5_add {g : Gl} {d : Nat} {Q : Int → Hp → Prop} {n x1 : Int} {h : Hp} (hn : 4 ≤ n) (v0 : (((h n 9) < (lnn g (n + 1)) → 0 ≤ (h n 9) ∧ (h n 9) < lnn g (n + 1) ∧ ∀ h2 : Hp, h2 = hup h (n + 1) (h n 9) x1 →
 (h n 9) < lnn g (n + 2) ∧ ∀ h3 : Hp, h3 = hup h2 (n + 2) (h n 9) (-1) →
 (h n 9) < lnn g (n + 3) ∧ ∀ h4 : Hp, h4 = hup h3 (n + 3) (h n 9) 0 →
 (h n 9) < lnn g (n + 4) ∧ ∀ h5 : Hp, h5 = hup h4 (n + 4) (h n 9) (-1) →
 (h n 9) < lnn g (n + 5) ∧ ∀ h6 : Hp, h6 = hup h5 (n + 5) (h n 9) 0 →
 (h n 9) < lnn g (n + 6) ∧ ∀ h7 : Hp, h7 = hup h6 (n + 6) (h n 9) 0 →
 (h n 9) < lnn g (n + 7) ∧ ∀ h8 : Hp, h8 = hup h7 (n + 7) (h n 9) 0 →
 ∀ h9 : Hp, h9 = hup h8 n 9 (w32 ((h8 n 9) + 1)) →
 Q (h n 9) h9) ∧
 (¬ (h n 9) < (lnn g (n + 1)) → Q (-1) h))) : L0 g d m5_add (retI Q) 0 [some (LR 5 n), some (LI x1), none] h :=
 LW.run 40 [] k5_add (And.intro (show n ≠ 0 from z4 hn) (And.intro (show n ≠ 0 from z4 hn) (And.intro (show (n + 1) ≠ 0 from z4k hn (by decide)) (And.intro (fun c1 => And.intro (show n ≠ 0 from z4 hn) (And.intro (show n ≠ 0 from z4 hn) (And.intro (show 4 ≤ (n + 1) from z4g hn (by decide)) (And.intro (v0.1 c1).1 (And.intro (v0.1 c1).2.1 (And.intro (show n ≠ 0 from z4 hn) (And.intro (show 4 ≤ (n + 2) from z4g hn (by decide)) (And.intro (v0.1 c1).1 (And.intro ((v0.1 c1).2.2 _ rfl).1 (And.intro (show n ≠ 0 from z4 hn) (And.intro (show 4 ≤ (n + 3) from z4g hn (by decide)) (And.intro (v0.1 c1).1 (And.intro (((v0.1 c1).2.2 _ rfl).2 _ rfl).1 (And.intro (show n ≠ 0 from z4 hn) (And.intro (show 4 ≤ (n + 4) from z4g hn (by decide)) (And.intro (v0.1 c1).1 (And.intro ((((v0.1 c1).2.2 _ rfl).2 _ rfl).2 _ rfl).1 (And.intro (show n ≠ 0 from z4 hn) (And.intro (show (n + 5) ≠ 0 from z4k hn (by decide)) (And.intro (v0.1 c1).1 (And.intro (((((v0.1 c1).2.2 _ rfl).2 _ rfl).2 _ rfl).2 _ rfl).1 (And.intro (Or.inl rfl) (And.intro (show n ≠ 0 from z4 hn) (And.intro (show (n + 6) ≠ 0 from z4k hn (by decide)) (And.intro (v0.1 c1).1 (And.intro ((((((v0.1 c1).2.2 _ rfl).2 _ rfl).2 _ rfl).2 _ rfl).2 _ rfl).1 (And.intro (show n ≠ 0 from z4 hn) (And.intro (show (n + 7) ≠ 0 from z4k hn (by decide)) (And.intro (v0.1 c1).1 (And.intro (((((((v0.1 c1).2.2 _ rfl).2 _ rfl).2 _ rfl).2 _ rfl).2 _ rfl).2 _ rfl).1 (And.intro (show n ≠ 0 from z4 hn) (And.intro (show n ≠ 0 from z4 hn) (And.intro rfl (((((((((v0.1 c1).2.2 _ rfl).2 _ rfl).2 _ rfl).2 _ rfl).2 _ rfl).2 _ rfl).2 _ rfl) _ rfl)))))))))))))))))))))))))))))))))) (fun c1 => And.intro rfl (v0.2 c1))))))
set_option maxRecDepth 20000 in
theorem v5_replace {g : Gl} {d : Nat} {Q : Hp → Prop} {n x1 x2 : Int} {h : Hp} (hn : 4 ≤ n) (v0 : ((x1 < 0 → Q h) ∧
 (¬ x1 < 0 → ((x2 < 0 → Q h) ∧
 (¬ x2 < 0 → (((h n 9) < (w32 (x1 + x2)) → Q h) ∧
 (¬ (h n 9) < (w32 (x1 + x2)) → (((w32 ((h n 9) + (w32 ((h 24 9) - x2)))) ≤ (lnn g (n + 1)) → (((w32 ((h 24 9) - x2)) ≤ 0 → L0 g d m5_replace (retV Q) 91 [some (LR 5 n), some (LI x1), none, some (LR 5 24), none, some (LI (w32 ((h 24 9) - x2))), some (LI (w32 (x1 + x2)))] h) ∧
 (¬ (w32 ((h 24 9) - x2)) ≤ 0 → L0 g d m5_replace (retV Q) 59 [some (LR 5 n), some (LI x1), none, some (LR 5 24), some (LI (w32 (x1 + x2))), some (LI (w32 ((h 24 9) - x2))), some (LI (w32 ((h n 9) - 1)))] h))) ∧
 (¬ (w32 ((h n 9) + (w32 ((h 24 9) - x2)))) ≤ (lnn g (n + 1)) → Q h))))))))) : L0 g d m5_replace (retV Q) 0 [some (LR 5 n), some (LI x1), some (LI x2), some (LR 5 24), none, none, none] h :=
 LW.run 40 [(59, [true, true, false, true, true, true, true]), (91, [true, true, false, true, false, true, true]), (121, [true, true, false, true, false, true, true])] k5_replace (And.intro (show (24 : Int) ≠ 0 by decide) (And.intro (fun c1 => And.intro rfl (v0.1 c1)) (fun c1 => And.intro (fun c2 => And.intro rfl ((v0.2 c1).1 c2)) (fun c2 => And.intro (show n ≠ 0 from z4 hn) (And.intro (fun c3 => And.intro rfl (((v0.2 c1).2 c2).1 c3)) (fun c3 => And.intro (show n ≠ 0 from z4 hn) (And.intro (show n ≠ 0 from z4 hn) (And.intro (show (n + 1) ≠ 0 from z4k hn (by decide)) (And.intro (fun c4 => And.intro (fun c5 => (((((v0.2 c1).2 c2).2 c3).1 c4).1 c5)) (fun c5 => And.intro (show n ≠ 0 from z4 hn) ((((((v0.2 c1).2 c2).2 c3).1 c4).2 c5)))) (fun c4 => And.intro rfl ((((v0.2 c1).2 c2).2 c3).2 c4)))))))))))
set_option maxRecDepth 20000 in
theorem v5_replace_59 {g : Gl} {d : Nat} {Q : Hp → Prop} {n x1 y4 y5 y6 : Int} {h : Hp} (hn : 4 ≤ n) (v0 : ((y6 < y4 → L0 g d m5_replace (retV Q) 121 [some (LR 5 n), some (LI x1), none, some (LR 5 24), none, some (LI y5), some (LI 0)] h) ∧
 (¬ y6 < y4 → Good g d i5_put [LR 5 n, LI (w32 (y6 + y5)), LR 5 n, LI y6] S0 h S0 (retV (fun h2 =>
 L0 g d m5_replace (retV Q) 59 [some (LR 5 n), some (LI x1), none, some (LR 5 24), some (LI y4), some (LI y5), some (LI (w32 (y6 + (-1))))] h2))))) : L0 g d m5_replace (retV Q) 59 [some (LR 5 n), some (LI x1), none, some (LR 5 24), some (LI y4), some (LI y5), some (LI y6)] h :=
 LW.run 40 [(59, [true, true, false, true, true, true, true]), (91, [true, true, false, true, false, true, true]), (121, [true, true, false, true, false, true, true])] k5_replace (And.intro (fun c1 => (v0.1 c1)) (fun c1 => And.intro (show n ≠ 0 from z4 hn) (And.intro (Int.le_refl _) (Good.mV (v0.2 c1) (fun h2 v3 => v3)))))
set_option maxRecDepth 20000 in
theorem v5_replace_91 {g : Gl} {d : Nat} {Q : Hp → Prop} {n x1 y5 y6 : Int} {h : Hp} (hn : 4 ≤ n) (v0 : (((h n 9) ≤ y6 → L0 g d m5_replace (retV Q) 121 [some (LR 5 n), some (LI x1), none, some (LR 5 24), none, some (LI y5), some (LI 0)] h) ∧
 (¬ (h n 9) ≤ y6 → Good g d i5_put [LR 5 n, LI (w32 (y6 + y5)), LR 5 n, LI y6] S0 h S0 (retV (fun h2 =>
 L0 g d m5_replace (retV Q) 91 [some (LR 5 n), some (LI x1), none, some (LR 5 24), none, some (LI y5), some (LI (w32 (y6 + 1)))] h2))))) : L0 g d m5_replace (retV Q) 91 [some (LR 5 n), some (LI x1), none, some (LR 5 24), none, some (LI y5), some (LI y6)] h :=
 LW.run 40 [(59, [true, true, false, true, true, true, true]), (91, [true, true, false, true, false, true, true]), (121, [true, true, false, true, false, true, true])] k5_replace (And.intro (show n ≠ 0 from z4 hn) (And.intro (fun c1 => (v0.1 c1)) (fun c1 => And.intro (show n ≠ 0 from z4 hn) (And.intro (Int.le_refl _) (Good.mV (v0.2 c1) (fun h2 v3 => v3))))))
set_option maxRecDepth 20000 in
theorem v5_replace_121 {g : Gl} {d : Nat} {Q : Hp → Prop} {n x1 y5 y6 : Int} {h : Hp} (hn : 4 ≤ n) (v0 : (((h 24 9) ≤ y6 → ∀ h2 : Hp, h2 = hup h n 9 (w32 ((h n 9) + y5)) →
 Q h2) ∧
 (¬ (h 24 9) ≤ y6 → Good g d i5_put [LR 5 n, LI (w32 (x1 + y6)), LR 5 24, LI y6] S0 h S0 (retV (fun h3 =>
 L0 g d m5_replace (retV Q) 121 [some (LR 5 n), some (LI x1), none, some (LR 5 24), none, some (LI y5), some (LI (w32 (y6 + 1)))] h3))))) : L0 g d m5_replace (retV Q) 121 [some (LR 5 n), some (LI x1), none, some (LR 5 24), none, some (LI y5), some (LI y6)] h :=
 LW.run 40 [(59, [true, true, false, true, true, true, true]), (91, [true, true, false, true, false, true, true]), (121, [true, true, false, true, false, true, true])] k5_replace (And.intro (show (24 : Int) ≠ 0 by decide) (And.intro (fun c1 => And.intro (show n ≠ 0 from z4 hn) (And.intro (show n ≠ 0 from z4 hn) (And.intro rfl ((v0.1 c1) _ rfl)))) (fun c1 => And.intro (show n ≠ 0 from z4 hn) (And.intro (Int.le_refl _) (Good.mV (v0.2 c1) (fun h3 v4 => v4))))))
set_option maxRecDepth 20000 in
theorem v5_put {g : Gl} {d : Nat} {Q : Hp → Prop} {n x1 x2 x3 : Int} {h : Hp} (hn : 4 ≤ n) (hx2 : 4 ≤ x2) (v0 : 0 ≤ x3 ∧ x3 < lnn g (x2 + 1) ∧ 0 ≤ x1 ∧ x1 < lnn g (n + 1) ∧ ∀ h1 : Hp, h1 = hup h (n + 1) x1 (h (x2 + 1) x3) →
 x3 < lnn g (x2 + 2) ∧ x1 < lnn g (n + 2) ∧ ∀ h2 : Hp, h2 = hup h1 (n + 2) x1 (h1 (x2 + 2) x3) →
 x3 < lnn g (x2 + 3) ∧ x1 < lnn g (n + 3) ∧ ∀ h3 : Hp, h3 = hup h2 (n + 3) x1 (h2 (x2 + 3) x3) →
 x3 < lnn g (x2 + 4) ∧ x1 < lnn g (n + 4) ∧ ∀ h4 : Hp, h4 = hup h3 (n + 4) x1 (h3 (x2 + 4) x3) →
 x3 < lnn g (x2 + 5) ∧ (((h4 (x2 + 5) x3) = 0 ∨ (h4 (x2 + 5) x3) = 1) → x1 < lnn g (n + 5) ∧ ∀ h6 : Hp, h6 = hup h4 (n + 5) x1 (h4 (x2 + 5) x3) →
 x3 < lnn g (x2 + 6) ∧ x1 < lnn g (n + 6) ∧ ∀ h7 : Hp, h7 = hup h6 (n + 6) x1 (h6 (x2 + 6) x3) →
 x3 < lnn g (x2 + 7) ∧ x1 < lnn g (n + 7) ∧ ∀ h8 : Hp, h8 = hup h7 (n + 7) x1 (h7 (x2 + 7) x3) →
 Q h8)) : L0 g d m5_put (retV Q) 0 [some (LR 5 n), some (LI x1), some (LR 5 x2), some (LI x3)] h :=
 LW.run 40 [] k5_put (And.intro (show n ≠ 0 from z4 hn) (And.intro (show x2 ≠ 0 from z4 hx2) (And.intro (show (x2 + 1) ≠ 0 from z4k hx2 (by decide)) (And.intro v0.1 (And.intro v0.2.1 (And.intro (show 4 ≤ (n + 1) from z4g hn (by decide)) (And.intro v0.2.2.1 (And.intro v0.2.2.2.1 (And.intro (show n ≠ 0 from z4 hn) (And.intro (show x2 ≠ 0 from z4 hx2) (And.intro (show (x2 + 2) ≠ 0 from z4k hx2 (by decide)) (And.intro v0.1 (And.intro (v0.2.2.2.2 _ rfl).1 (And.intro (show 4 ≤ (n + 2) from z4g hn (by decide)) (And.intro v0.2.2.1 (And.intro (v0.2.2.2.2 _ rfl).2.1 (And.intro (show n ≠ 0 from z4 hn) (And.intro (show x2 ≠ 0 from z4 hx2) (And.intro (show (x2 + 3) ≠ 0 from z4k hx2 (by decide)) (And.intro v0.1 (And.intro ((v0.2.2.2.2 _ rfl).2.2 _ rfl).1 (And.intro (show 4 ≤ (n + 3) from z4g hn (by decide)) (And.intro v0.2.2.1 (And.intro ((v0.2.2.2.2 _ rfl).2.2 _ rfl).2.1 (And.intro (show n ≠ 0 from z4 hn) (And.intro (show x2 ≠ 0 from z4 hx2) (And.intro (show (x2 + 4) ≠ 0 from z4k hx2 (by decide)) (And.intro v0.1 (And.intro (((v0.2.2.2.2 _ rfl).2.2 _ rfl).2.2 _ rfl).1 (And.intro (show 4 ≤ (n + 4) from z4g hn (by decide)) (And.intro v0.2.2.1 (And.intro (((v0.2.2.2.2 _ rfl).2.2 _ rfl).2.2 _ rfl).2.1 (And.intro (show n ≠ 0 from z4 hn) (And.intro (show x2 ≠ 0 from z4 hx2) (And.intro (show (x2 + 5) ≠ 0 from z4k hx2 (by decide)) (And.intro v0.1 (And.intro ((((v0.2.2.2.2 _ rfl).2.2 _ rfl).2.2 _ rfl).2.2 _ rfl).1 (fun c5 => And.intro (show (n + 5) ≠ 0 from z4k hn (by decide)) (And.intro v0.2.2.1 (And.intro (((((v0.2.2.2.2 _ rfl).2.2 _ rfl).2.2 _ rfl).2.2 _ rfl).2 c5).1 (And.intro c5 (And.intro (show n ≠ 0 from z4 hn) (And.intro (show x2 ≠ 0 from z4 hx2) (And.intro (show (x2 + 6) ≠ 0 from z4k hx2 (by decide)) (And.intro v0.1 (And.intro ((((((v0.2.2.2.2 _ rfl).2.2 _ rfl).2.2 _ rfl).2.2 _ rfl).2 c5).2 _ rfl).1 (And.intro (show (n + 6) ≠ 0 from z4k hn (by decide)) (And.intro v0.2.2.1 (And.intro ((((((v0.2.2.2.2 _ rfl).2.2 _ rfl).2.2 _ rfl).2.2 _ rfl).2 c5).2 _ rfl).2.1 (And.intro (show n ≠ 0 from z4 hn) (And.intro (show x2 ≠ 0 from z4 hx2) (And.intro (show (x2 + 7) ≠ 0 from z4k hx2 (by decide)) (And.intro v0.1 (And.intro (((((((v0.2.2.2.2 _ rfl).2.2 _ rfl).2.2 _ rfl).2.2 _ rfl).2 c5).2 _ rfl).2.2 _ rfl).1 (And.intro (show (n + 7) ≠ 0 from z4k hn (by decide)) (And.intro v0.2.2.1 (And.intro (((((((v0.2.2.2.2 _ rfl).2.2 _ rfl).2.2 _ rfl).2.2 _ rfl).2 c5).2 _ rfl).2.2 _ rfl).2.1 (And.intro rfl ((((((((v0.2.2.2.2 _ rfl).2.2 _ rfl).2.2 _ rfl).2.2 _ rfl).2 c5).2 _ rfl).2.2 _ rfl).2.2 _ rfl)))))))))))))))))))))))))))))))))))))))))))))))))))))))))))
set_option maxRecDepth 20000 in
theorem v5_link {g : Gl} {d : Nat} {Q : Hp → Prop} {n : Int} {h : Hp} (hn : 4 ≤ n) (v0 : L0 g d m5_link (retV Q) 7 [some (LR 5 n), some (LR 2 5), some (LI (w32 ((h n 9) - 1))), none, none] h) : L0 g d m5_link (retV Q) 0 [some (LR 5 n), some (LR 2 5), none, none, none] h :=
 LW.run 40 [(7, [true, true, true, false, false]), (23, [true, true, true, true, true])] k5_link (And.intro (show n ≠ 0 from z4 hn) (v0))
set_option maxRecDepth 20000 in
theorem v5_link_7 {g : Gl} {d : Nat} {Q : Hp → Prop} {n y2 : Int} {h : Hp} (hn : 4 ≤ n) (v0 : ((y2 < 0 → Q h) ∧
 (¬ y2 < 0 → Good g d i2_partsOfNode [LR 2 5, LR 5 n, LI y2] S0 h S0 (retI (fun r4 h2 =>
 L0 g d m5_link (retV Q) 23 [some (LR 5 n), some (LR 2 5), some (LI y2), some (LI (w32 (y2 + 1))), some (LI r4)] h2))))) : L0 g d m5_link (retV Q) 7 [some (LR 5 n), some (LR 2 5), some (LI y2), none, none] h :=
 LW.run 40 [(7, [true, true, true, false, false]), (23, [true, true, true, true, true])] k5_link (And.intro (fun c1 => And.intro rfl (v0.1 c1)) (fun c1 => And.intro (show (5 : Int) ≠ 0 by decide) (And.intro (Int.le_refl _) (Good.mI (v0.2 c1) (fun r4 h2 v3 => v3)))))
set_option maxRecDepth 20000 in
theorem v5_link_23 {g : Gl} {d : Nat} {Q : Hp → Prop} {n y2 y3 y4 : Int} {h : Hp} (hn : 4 ≤ n) (v0 : ((y4 ≤ 0 → 0 ≤ y2 ∧ y2 < lnn g (n + 9) ∧ ∀ h2 : Hp, h2 = hup h (n + 9) y2 (w32 (y3 - y2)) →
 y2 < lnn g (n + 8) ∧ ∀ h3 : Hp, h3 = hup h2 (n + 8) y2 (-1) →
 L0 g d m5_link (retV Q) 7 [some (LR 5 n), some (LR 2 5), some (LI (w32 (y2 + (-1)))), none, none] h3) ∧
 (¬ y4 ≤ 0 → (((h n 9) ≤ y3 → 0 ≤ y2 ∧ y2 < lnn g (n + 9) ∧ ∀ h5 : Hp, h5 = hup h (n + 9) y2 (w32 (y3 - y2)) →
 y2 < lnn g (n + 8) ∧ ∀ h6 : Hp, h6 = hup h5 (n + 8) y2 (-1) →
 L0 g d m5_link (retV Q) 7 [some (LR 5 n), some (LR 2 5), some (LI (w32 (y2 + (-1)))), none, none] h6) ∧
 (¬ (h n 9) ≤ y3 → 0 ≤ y3 ∧ y3 < lnn g (n + 8) ∧ ∀ h7 : Hp, h7 = hup h (n + 8) y3 y2 →
 y3 < lnn g (n + 9) ∧ L0 g d m5_link (retV Q) 23 [some (LR 5 n), some (LR 2 5), some (LI y2), some (LI (w32 (y3 + (h7 (n + 9) y3)))), some (LI (w32 (y4 + (-1))))] h7))))) : L0 g d m5_link (retV Q) 23 [some (LR 5 n), some (LR 2 5), some (LI y2), some (LI y3), some (LI y4)] h :=
 LW.run 40 [(7, [true, true, true, false, false]), (23, [true, true, true, true, true])] k5_link (And.intro (fun c1 => And.intro (show n ≠ 0 from z4 hn) (And.intro (show 4 ≤ (n + 9) from z4g hn (by decide)) (And.intro (v0.1 c1).1 (And.intro (v0.1 c1).2.1 (And.intro (show n ≠ 0 from z4 hn) (And.intro (show 4 ≤ (n + 8) from z4g hn (by decide)) (And.intro (v0.1 c1).1 (And.intro ((v0.1 c1).2.2 _ rfl).1 ((((v0.1 c1).2.2 _ rfl).2 _ rfl)))))))))) (fun c1 => And.intro (show n ≠ 0 from z4 hn) (And.intro (fun c4 => And.intro (show n ≠ 0 from z4 hn) (And.intro (show 4 ≤ (n + 9) from z4g hn (by decide)) (And.intro ((v0.2 c1).1 c4).1 (And.intro ((v0.2 c1).1 c4).2.1 (And.intro (show n ≠ 0 from z4 hn) (And.intro (show 4 ≤ (n + 8) from z4g hn (by decide)) (And.intro ((v0.2 c1).1 c4).1 (And.intro (((v0.2 c1).1 c4).2.2 _ rfl).1 (((((v0.2 c1).1 c4).2.2 _ rfl).2 _ rfl)))))))))) (fun c4 => And.intro (show n ≠ 0 from z4 hn) (And.intro (show 4 ≤ (n + 8) from z4g hn (by decide)) (And.intro ((v0.2 c1).2 c4).1 (And.intro ((v0.2 c1).2 c4).2.1 (And.intro (show n ≠ 0 from z4 hn) (And.intro (show (n + 9) ≠ 0 from z4k hn (by decide)) (And.intro ((v0.2 c1).2 c4).1 (And.intro (((v0.2 c1).2 c4).2.2 _ rfl).1 ((((v0.2 c1).2 c4).2.2 _ rfl).2))))))))))))
set_option maxRecDepth 20000 in
theorem v5_partOf {g : Gl} {d : Nat} {Q : Int → Hp → Prop} {n x1 x2 : Int} {h : Hp} (hn : 4 ≤ n) (v0 : L0 g d m5_partOf (retI Q) 7 [some (LR 5 n), none, some (LI x2), some (LI (w32 (x1 + 1))), some (LI 0)] h) : L0 g d m5_partOf (retI Q) 0 [some (LR 5 n), some (LI x1), some (LI x2), none, none] h :=
 LW.run 40 [(7, [true, false, true, true, true])] k5_partOf (v0)
set_option maxRecDepth 20000 in
theorem v5_partOf_7 {g : Gl} {d : Nat} {Q : Int → Hp → Prop} {n x2 y3 y4 : Int} {h : Hp} (hn : 4 ≤ n) (v0 : ((x2 ≤ y4 → Q y3 h) ∧
 (¬ x2 ≤ y4 → (((h n 9) ≤ y3 → Q y3 h) ∧
 (¬ (h n 9) ≤ y3 → 0 ≤ y3 ∧ y3 < lnn g (n + 9) ∧ L0 g d m5_partOf (retI Q) 7 [some (LR 5 n), none, some (LI x2), some (LI (w32 (y3 + (h (n + 9) y3)))), some (LI (w32 (y4 + 1)))] h))))) : L0 g d m5_partOf (retI Q) 7 [some (LR 5 n), none, some (LI x2), some (LI y3), some (LI y4)] h :=
 LW.run 40 [(7, [true, false, true, true, true])] k5_partOf (And.intro (fun c1 => And.intro rfl (v0.1 c1)) (fun c1 => And.intro (show n ≠ 0 from z4 hn) (And.intro (fun c2 => And.intro rfl ((v0.2 c1).1 c2)) (fun c2 => And.intro (show n ≠ 0 from z4 hn) (And.intro (show (n + 9) ≠ 0 from z4k hn (by decide)) (And.intro ((v0.2 c1).2 c2).1 (And.intro ((v0.2 c1).2 c2).2.1 (((v0.2 c1).2 c2).2.2))))))))
set_option maxRecDepth 20000 in
theorem v5_areAlike {g : Gl} {d : Nat} {Q : Int → Hp → Prop} {n x1 x2 : Int} {h : Hp} (hn : 4 ≤ n) (v0 : ((¬ x1 = x2 → Good g d i5_has [LR 5 n, LI x1] S0 h S0 (retI (fun r4 h2 =>
 ((r4 = 0 → Q 0 h2) ∧
 (¬ r4 = 0 → Good g d i5_has [LR 5 n, LI x2] S0 h2 S0 (retI (fun r8 h6 =>
 ((r8 = 0 → Q 0 h6) ∧
 (¬ r8 = 0 → 0 ≤ x1 ∧ x1 < lnn g (n + 9) ∧ 0 ≤ x2 ∧ x2 < lnn g (n + 9) ∧ (((h6 (n + 9) x1) = (h6 (n + 9) x2) → L0 g d m5_areAlike (retI Q) 42 [some (LR 5 n), some (LI x1), some (LI x2), some (LI 0)] h6) ∧
 (¬ (h6 (n + 9) x1) = (h6 (n + 9) x2) → Q 0 h6))))))))))) ∧
 (x1 = x2 → Q 1 h))) : L0 g d m5_areAlike (retI Q) 0 [some (LR 5 n), some (LI x1), some (LI x2), none] h :=
 LW.run 40 [(42, [true, true, true, true])] k5_areAlike (And.intro (fun c1 => And.intro (show n ≠ 0 from z4 hn) (And.intro (Int.le_refl _) (Good.mI (v0.1 c1) (fun r4 h2 v3 => And.intro (fun c5 => And.intro (Or.inl rfl) (And.intro rfl (v3.1 c5))) (fun c5 => And.intro (show n ≠ 0 from z4 hn) (And.intro (Int.le_refl _) (Good.mI (v3.2 c5) (fun r8 h6 v7 => And.intro (fun c9 => And.intro (Or.inl rfl) (And.intro rfl (v7.1 c9))) (fun c9 => And.intro (show n ≠ 0 from z4 hn) (And.intro (show (n + 9) ≠ 0 from z4k hn (by decide)) (And.intro (v7.2 c9).1 (And.intro (v7.2 c9).2.1 (And.intro (show n ≠ 0 from z4 hn) (And.intro (show (n + 9) ≠ 0 from z4k hn (by decide)) (And.intro (v7.2 c9).2.2.1 (And.intro (v7.2 c9).2.2.2.1 (And.intro (fun c10 => ((v7.2 c9).2.2.2.2.1 c10)) (fun c10 => And.intro (Or.inl rfl) (And.intro rfl ((v7.2 c9).2.2.2.2.2 c10)))))))))))))))))))) (fun c1 => And.intro (Or.inr rfl) (And.intro rfl (v0.2 c1))))
set_option maxRecDepth 20000 in
theorem v5_areAlike_42 {g : Gl} {d : Nat} {Q : Int → Hp → Prop} {n x1 x2 y3 : Int} {h : Hp} (hn : 4 ≤ n) (v0 : 0 ≤ x1 ∧ x1 < lnn g (n + 9) ∧ (((h (n + 9) x1) ≤ y3 → Q 1 h) ∧
 (¬ (h (n + 9) x1) ≤ y3 → 0 ≤ ((w32 (x1 + y3))) ∧ ((w32 (x1 + y3))) < lnn g (n + 2) ∧ 0 ≤ ((w32 (x2 + y3))) ∧ ((w32 (x2 + y3))) < lnn g (n + 2) ∧ ((¬ (h (n + 2) (w32 (x1 + y3))) = (h (n + 2) (w32 (x2 + y3))) → Q 0 h) ∧
 ((h (n + 2) (w32 (x1 + y3))) = (h (n + 2) (w32 (x2 + y3))) → ((w32 (x1 + y3))) < lnn g (n + 6) ∧ ((w32 (x2 + y3))) < lnn g (n + 6) ∧ (((lcmpI (h (n + 6) (w32 (x1 + y3))) (h (n + 6) (w32 (x2 + y3)))) = 0 → L0 g d m5_areAlike (retI Q) 42 [some (LR 5 n), some (LI x1), some (LI x2), some (LI (w32 (y3 + 1)))] h) ∧
 (¬ (lcmpI (h (n + 6) (w32 (x1 + y3))) (h (n + 6) (w32 (x2 + y3)))) = 0 → Q 0 h))))))) : L0 g d m5_areAlike (retI Q) 42 [some (LR 5 n), some (LI x1), some (LI x2), some (LI y3)] h :=
 LW.run 40 [(42, [true, true, true, true])] k5_areAlike (And.intro (show n ≠ 0 from z4 hn) (And.intro (show (n + 9) ≠ 0 from z4k hn (by decide)) (And.intro v0.1 (And.intro v0.2.1 (And.intro (fun c1 => And.intro (Or.inr rfl) (And.intro rfl (v0.2.2.1 c1))) (fun c1 => And.intro (show n ≠ 0 from z4 hn) (And.intro (show (n + 2) ≠ 0 from z4k hn (by decide)) (And.intro (v0.2.2.2 c1).1 (And.intro (v0.2.2.2 c1).2.1 (And.intro (show n ≠ 0 from z4 hn) (And.intro (show (n + 2) ≠ 0 from z4k hn (by decide)) (And.intro (v0.2.2.2 c1).2.2.1 (And.intro (v0.2.2.2 c1).2.2.2.1 (And.intro (fun c2 => And.intro (Or.inl rfl) (And.intro rfl ((v0.2.2.2 c1).2.2.2.2.1 c2))) (fun c2 => And.intro (show n ≠ 0 from z4 hn) (And.intro (show (n + 6) ≠ 0 from z4k hn (by decide)) (And.intro (v0.2.2.2 c1).1 (And.intro ((v0.2.2.2 c1).2.2.2.2.2 c2).1 (And.intro (show n ≠ 0 from z4 hn) (And.intro (show (n + 6) ≠ 0 from z4k hn (by decide)) (And.intro (v0.2.2.2 c1).2.2.1 (And.intro ((v0.2.2.2 c1).2.2.2.2.2 c2).2.1 (And.intro (fun c3 => (((v0.2.2.2 c1).2.2.2.2.2 c2).2.2.1 c3)) (fun c3 => And.intro (Or.inl rfl) (And.intro rfl (((v0.2.2.2 c1).2.2.2.2.2 c2).2.2.2 c3))))))))))))))))))))))))))
set_option maxRecDepth 20000 in
theorem v5_spanHolds {g : Gl} {d : Nat} {Q : Int → Hp → Prop} {n x1 x2 : Int} {h : Hp} (hn : 4 ≤ n) (v0 : 0 ≤ x1 ∧ x1 < lnn g (n + 5) ∧ (((h (n + 5) x1) = 0 ∨ (h (n + 5) x1) = 1) → (((h (n + 5) x1) = 0 → Q 1 h) ∧
 (¬ (h (n + 5) x1) = 0 → x1 < lnn g (n + 6) ∧ ((0 < (lcmpI (h (n + 6) x1) x2) → Q 0 h) ∧
 (¬ 0 < (lcmpI (h (n + 6) x1) x2) → x1 < lnn g (n + 7) ∧ ((0 < (lcmpI x2 (h (n + 7) x1)) → Q 0 h) ∧
 (¬ 0 < (lcmpI x2 (h (n + 7) x1)) → Q 1 h)))))))) : L0 g d m5_spanHolds (retI Q) 0 [some (LR 5 n), some (LI x1), some (LL x2), none] h :=
 LW.run 40 [] k5_spanHolds (And.intro (show n ≠ 0 from z4 hn) (And.intro (show (n + 5) ≠ 0 from z4k hn (by decide)) (And.intro v0.1 (And.intro v0.2.1 (fun c1 => And.intro (fun c2 => And.intro (Or.inr rfl) (And.intro rfl ((v0.2.2 c1).1 c2))) (fun c2 => And.intro (show n ≠ 0 from z4 hn) (And.intro (show (n + 6) ≠ 0 from z4k hn (by decide)) (And.intro v0.1 (And.intro ((v0.2.2 c1).2 c2).1 (And.intro (fun c3 => And.intro (Or.inl rfl) (And.intro rfl (((v0.2.2 c1).2 c2).2.1 c3))) (fun c3 => And.intro (show n ≠ 0 from z4 hn) (And.intro (show (n + 7) ≠ 0 from z4k hn (by decide)) (And.intro v0.1 (And.intro (((v0.2.2 c1).2 c2).2.2 c3).1 (And.intro (fun c4 => And.intro (Or.inl rfl) (And.intro rfl ((((v0.2.2 c1).2 c2).2.2 c3).2.1 c4))) (fun c4 => And.intro (Or.inr rfl) (And.intro rfl ((((v0.2.2 c1).2 c2).2.2 c3).2.2 c4))))))))))))))))))
set_option maxRecDepth 20000 in
theorem v6_take {g : Gl} {d : Nat} {Q : Hp → Prop} {b x2 : Int} {h : Hp} (hb : 4 ≤ b) (v0 : Good g d i5_replace [LR 5 (b + 1), LI 0, LI (h (b + 1) 9), LR 5 24] S0 h S0 (retV (fun h1 =>
 Good g d i5_link [LR 5 (b + 1), LR 2 5] S0 h1 S0 (retV (fun h3 =>
 ∀ h5 : Hp, h5 = hup h3 b 4 x2 →
 ∀ h6 : Hp, h6 = hup h5 b 3 1 →
 ∀ h7 : Hp, h7 = hup h6 b 5 0 →
 ∀ h8 : Hp, h8 = hup h7 b 6 0 →
 ∀ h9 : Hp, h9 = hup h8 b 7 0 →
 L0 g d m6_take (retV Q) 52 [some (LR 6 b), none, none, some (LR 2 5), some (LI 0)] h9))))) : L0 g d m6_take (retV Q) 0 [some (LR 6 b), some (LR 5 24), some (LI x2), some (LR 2 5), none] h :=
 LW.run 40 [(52, [true, false, false, true, true])] k6_take (And.intro (show b ≠ 0 from z4 hb) (And.intro (show b ≠ 0 from z4 hb) (And.intro (show (b + 1) ≠ 0 from z4k hb (by decide)) (And.intro (show (b + 1) ≠ 0 from z4k hb (by decide)) (And.intro (Int.le_refl _) (Good.mV v0 (fun h1 v2 => And.intro (show b ≠ 0 from z4 hb) (And.intro (show (b + 1) ≠ 0 from z4k hb (by decide)) (And.intro (Int.le_refl _) (Good.mV v2 (fun h3 v4 => And.intro (show b ≠ 0 from z4 hb) (And.intro (show b ≠ 0 from z4 hb) (And.intro (Or.inr rfl) (And.intro (show b ≠ 0 from z4 hb) (And.intro (show b ≠ 0 from z4 hb) (And.intro (show b ≠ 0 from z4 hb) ((((((v4 _ rfl) _ rfl) _ rfl) _ rfl) _ rfl))))))))))))))))))
set_option maxRecDepth 20000 in
theorem v6_take_52 {g : Gl} {d : Nat} {Q : Hp → Prop} {b y4 : Int} {h : Hp} (hb : 4 ≤ b) (v0 : (((h (b + 1) 9) ≤ y4 → Q h) ∧
 (¬ (h (b + 1) 9) ≤ y4 → Good g d i6_holesAheadOfFirst [LR 6 b, LI y4] S0 h S0 (retI (fun r4 h2 =>
 0 ≤ y4 ∧ y4 < lnn g (b + 11) ∧ ∀ h5 : Hp, h5 = hup h2 (b + 11) y4 r4 →
 (((b + 1) + 4)) ≠ 0 ∧ y4 < lnn g ((b + 1) + 4) ∧ (((h5 ((b + 1) + 4) y4) = (-1) → Good g d i6_isWild [LR 6 b, LI y4, LR 2 5] S0 h5 S0 (retI (fun r9 h7 =>
 ((r9 = 0 → ∀ h11 : Hp, h11 = hup h7 b 7 (w32 ((h5 b 7) + 0)) →
 L0 g d m6_take (retV Q) 52 [some (LR 6 b), none, none, some (LR 2 5), some (LI (w32 (y4 + 1)))] h11) ∧
 (¬ r9 = 0 → ∀ h12 : Hp, h12 = hup h7 b 7 (w32 ((h5 b 7) + 1)) →
 L0 g d m6_take (retV Q) 52 [some (LR 6 b), none, none, some (LR 2 5), some (LI (w32 (y4 + 1)))] h12))))) ∧
 (¬ (h5 ((b + 1) + 4) y4) = (-1) → ∀ h13 : Hp, h13 = hup h5 b 5 (w32 ((h5 b 5) + 1)) →
 ((¬ (h13 (b + 11) y4) = (-1) → ∀ h15 : Hp, h15 = hup h13 b 6 (w32 ((h13 b 6) + 0)) →
 Good g d i6_isWild [LR 6 b, LI y4, LR 2 5] S0 h15 S0 (retI (fun r18 h16 =>
 ((r18 = 0 → ∀ h20 : Hp, h20 = hup h16 b 7 (w32 ((h15 b 7) + 0)) →
 L0 g d m6_take (retV Q) 52 [some (LR 6 b), none, none, some (LR 2 5), some (LI (w32 (y4 + 1)))] h20) ∧
 (¬ r18 = 0 → ∀ h21 : Hp, h21 = hup h16 b 7 (w32 ((h15 b 7) + 1)) →
 L0 g d m6_take (retV Q) 52 [some (LR 6 b), none, none, some (LR 2 5), some (LI (w32 (y4 + 1)))] h21))))) ∧
 ((h13 (b + 11) y4) = (-1) → ∀ h22 : Hp, h22 = hup h13 b 6 (w32 ((h13 b 6) + 1)) →
 Good g d i6_isWild [LR 6 b, LI y4, LR 2 5] S0 h22 S0 (retI (fun r25 h23 =>
 ((r25 = 0 → ∀ h27 : Hp, h27 = hup h23 b 7 (w32 ((h22 b 7) + 0)) →
 L0 g d m6_take (retV Q) 52 [some (LR 6 b), none, none, some (LR 2 5), some (LI (w32 (y4 + 1)))] h27) ∧
 (¬ r25 = 0 → ∀ h28 : Hp, h28 = hup h23 b 7 (w32 ((h22 b 7) + 1)) →
 L0 g d m6_take (retV Q) 52 [some (LR 6 b), none, none, some (LR 2 5), some (LI (w32 (y4 + 1)))] h28))))))))))))) : L0 g d m6_take (retV Q) 52 [some (LR 6 b), none, none, some (LR 2 5), some (LI y4)] h :=
 LW.run 40 [(52, [true, false, false, true, true])] k6_take (And.intro (show b ≠ 0 from z4 hb) (And.intro (show (b + 1) ≠ 0 from z4k hb (by decide)) (And.intro (fun c1 => And.intro rfl (v0.1 c1)) (fun c1 => And.intro (show b ≠ 0 from z4 hb) (And.intro (show b ≠ 0 from z4 hb) (And.intro (Int.le_refl _) (Good.mI (v0.2 c1) (fun r4 h2 v3 => And.intro (show 4 ≤ (b + 11) from z4g hb (by decide)) (And.intro v3.1 (And.intro v3.2.1 (And.intro (show b ≠ 0 from z4 hb) (And.intro (show (b + 1) ≠ 0 from z4k hb (by decide)) (And.intro (v3.2.2 _ rfl).1 (And.intro v3.1 (And.intro (v3.2.2 _ rfl).2.1 (And.intro (fun c6 => And.intro (show b ≠ 0 from z4 hb) (And.intro (show b ≠ 0 from z4 hb) (And.intro (Int.le_refl _) (Good.mI ((v3.2.2 _ rfl).2.2.1 c6) (fun r9 h7 v8 => And.intro (fun c10 => And.intro (show b ≠ 0 from z4 hb) (((v8.1 c10) _ rfl))) (fun c10 => And.intro (show b ≠ 0 from z4 hb) (((v8.2 c10) _ rfl)))))))) (fun c6 => And.intro (show b ≠ 0 from z4 hb) (And.intro (show b ≠ 0 from z4 hb) (And.intro (show b ≠ 0 from z4 hb) (And.intro (show b ≠ 0 from z4 hb) (And.intro (show (b + 11) ≠ 0 from z4k hb (by decide)) (And.intro v3.1 (And.intro v3.2.1 (And.intro (fun c14 => And.intro (show b ≠ 0 from z4 hb) (And.intro (show b ≠ 0 from z4 hb) (And.intro (show b ≠ 0 from z4 hb) (And.intro (Int.le_refl _) (Good.mI (((((v3.2.2 _ rfl).2.2.2 c6) _ rfl).1 c14) _ rfl) (fun r18 h16 v17 => And.intro (fun c19 => And.intro (show b ≠ 0 from z4 hb) (((v17.1 c19) _ rfl))) (fun c19 => And.intro (show b ≠ 0 from z4 hb) (((v17.2 c19) _ rfl))))))))) (fun c14 => And.intro (show b ≠ 0 from z4 hb) (And.intro (show b ≠ 0 from z4 hb) (And.intro (show b ≠ 0 from z4 hb) (And.intro (Int.le_refl _) (Good.mI (((((v3.2.2 _ rfl).2.2.2 c6) _ rfl).2 c14) _ rfl) (fun r25 h23 v24 => And.intro (fun c26 => And.intro (show b ≠ 0 from z4 hb) (((v24.1 c26) _ rfl))) (fun c26 => And.intro (show b ≠ 0 from z4 hb) (((v24.2 c26) _ rfl)))))))))))))))))))))))))))))))))
set_option maxRecDepth 20000 in
theorem v6_isWild {g : Gl} {d : Nat} {Q : Int → Hp → Prop} {b x1 : Int} {h : Hp} (hb : 4 ≤ b) (v0 : (((b + 1) + 1)) ≠ 0 ∧ 0 ≤ x1 ∧ x1 < lnn g ((b + 1) + 1) ∧ (((h ((b + 1) + 1) x1) = 3 → Q 1 h) ∧
 (¬ (h ((b + 1) + 1) x1) = 3 → (((h ((b + 1) + 1) x1) = 4 → Q 1 h) ∧
 (¬ (h ((b + 1) + 1) x1) = 4 → Good g d i2_isLooseNode [LR 2 5, LR 5 (b + 1), LI x1] S0 h S0 (retI (fun r5 h3 =>
 ((r5 = 0 → Q 0 h3) ∧
 (¬ r5 = 0 → Q 1 h3))))))))) : L0 g d m6_isWild (retI Q) 0 [some (LR 6 b), some (LI x1), some (LR 2 5), none] h :=
 LW.run 40 [] k6_isWild (And.intro (show b ≠ 0 from z4 hb) (And.intro (show (b + 1) ≠ 0 from z4k hb (by decide)) (And.intro v0.1 (And.intro v0.2.1 (And.intro v0.2.2.1 (And.intro (fun c1 => And.intro (Or.inr rfl) (And.intro rfl (v0.2.2.2.1 c1))) (fun c1 => And.intro (fun c2 => And.intro (Or.inr rfl) (And.intro rfl ((v0.2.2.2.2 c1).1 c2))) (fun c2 => And.intro (show b ≠ 0 from z4 hb) (And.intro (show (5 : Int) ≠ 0 by decide) (And.intro (Int.le_refl _) (Good.mI ((v0.2.2.2.2 c1).2 c2) (fun r5 h3 v4 => And.intro (fun c6 => And.intro (Or.inl rfl) (And.intro rfl (v4.1 c6))) (fun c6 => And.intro (Or.inr rfl) (And.intro rfl (v4.2 c6)))))))))))))))
set_option maxRecDepth 20000 in
theorem v6_holesAheadOfFirst {g : Gl} {d : Nat} {Q : Int → Hp → Prop} {b x1 : Int} {h : Hp} (hb : 4 ≤ b) (v0 : L0 g d m6_holesAheadOfFirst (retI Q) 4 [some (LR 6 b), some (LI x1), some (LI 0), some (LI 0)] h) : L0 g d m6_holesAheadOfFirst (retI Q) 0 [some (LR 6 b), some (LI x1), none, none] h :=
 LW.run 40 [(4, [true, true, true, true])] k6_holesAheadOfFirst (v0)
set_option maxRecDepth 20000 in
theorem v6_holesAheadOfFirst_4 {g : Gl} {d : Nat} {Q : Int → Hp → Prop} {b x1 y2 y3 : Int} {h : Hp} (hb : 4 ≤ b) (v0 : ((x1 ≤ y3 → Q (-1) h) ∧
 (¬ x1 ≤ y3 → (((b + 1) + 4)) ≠ 0 ∧ 0 ≤ x1 ∧ x1 < lnn g ((b + 1) + 4) ∧ (((h ((b + 1) + 4) x1) = (-1) → Q (-1) h) ∧
 (¬ (h ((b + 1) + 4) x1) = (-1) → 0 ≤ y3 ∧ y3 < lnn g ((b + 1) + 4) ∧ ((¬ (h ((b + 1) + 4) y3) = (h ((b + 1) + 4) x1) → (((b + 1) + 1)) ≠ 0 ∧ y3 < lnn g ((b + 1) + 1) ∧ ((¬ (h ((b + 1) + 1) y3) = 2 → L0 g d m6_holesAheadOfFirst (retI Q) 4 [some (LR 6 b), some (LI x1), some (LI (w32 (y2 + 0))), some (LI (w32 (y3 + 1)))] h) ∧
 ((h ((b + 1) + 1) y3) = 2 → L0 g d m6_holesAheadOfFirst (retI Q) 4 [some (LR 6 b), some (LI x1), some (LI (w32 (y2 + 1))), some (LI (w32 (y3 + 1)))] h))) ∧
 ((h ((b + 1) + 4) y3) = (h ((b + 1) + 4) x1) → Q y2 h))))))) : L0 g d m6_holesAheadOfFirst (retI Q) 4 [some (LR 6 b), some (LI x1), some (LI y2), some (LI y3)] h :=
 LW.run 40 [(4, [true, true, true, true])] k6_holesAheadOfFirst (And.intro (fun c1 => And.intro rfl (v0.1 c1)) (fun c1 => And.intro (show b ≠ 0 from z4 hb) (And.intro (show (b + 1) ≠ 0 from z4k hb (by decide)) (And.intro (v0.2 c1).1 (And.intro (v0.2 c1).2.1 (And.intro (v0.2 c1).2.2.1 (And.intro (fun c2 => And.intro rfl ((v0.2 c1).2.2.2.1 c2)) (fun c2 => And.intro (show b ≠ 0 from z4 hb) (And.intro (show (b + 1) ≠ 0 from z4k hb (by decide)) (And.intro (v0.2 c1).1 (And.intro ((v0.2 c1).2.2.2.2 c2).1 (And.intro ((v0.2 c1).2.2.2.2 c2).2.1 (And.intro (show b ≠ 0 from z4 hb) (And.intro (show (b + 1) ≠ 0 from z4k hb (by decide)) (And.intro (v0.2 c1).1 (And.intro (v0.2 c1).2.1 (And.intro (v0.2 c1).2.2.1 (And.intro (fun c3 => And.intro (show b ≠ 0 from z4 hb) (And.intro (show (b + 1) ≠ 0 from z4k hb (by decide)) (And.intro (((v0.2 c1).2.2.2.2 c2).2.2.1 c3).1 (And.intro ((v0.2 c1).2.2.2.2 c2).1 (And.intro (((v0.2 c1).2.2.2.2 c2).2.2.1 c3).2.1 (And.intro (fun c4 => ((((v0.2 c1).2.2.2.2 c2).2.2.1 c3).2.2.1 c4)) (fun c4 => ((((v0.2 c1).2.2.2.2 c2).2.2.1 c3).2.2.2 c4)))))))) (fun c3 => And.intro rfl (((v0.2 c1).2.2.2.2 c2).2.2.2 c3))))))))))))))))))))
set_option maxRecDepth 20000 in
theorem v6_isInNet {g : Gl} {d : Nat} {Q : Int → Hp → Prop} {b : Int} {h : Hp} (hb : 4 ≤ b) (v0 : (((h b 3) = 0 ∨ (h b 3) = 1) → (((h b 3) = 0 → Q 0 h) ∧
 (¬ (h b 3) = 0 → ((¬ (h b 7) = 0 → Q 0 h) ∧
 ((h b 7) = 0 → Q 1 h)))))) : L0 g d m6_isInNet (retI Q) 0 [some (LR 6 b)] h :=
 LW.run 40 [] k6_isInNet (And.intro (show b ≠ 0 from z4 hb) (fun c1 => And.intro (fun c2 => And.intro (Or.inl rfl) (And.intro rfl ((v0 c1).1 c2))) (fun c2 => And.intro (show b ≠ 0 from z4 hb) (And.intro (fun c3 => And.intro (Or.inl rfl) (And.intro rfl (((v0 c1).2 c2).1 c3))) (fun c3 => And.intro (Or.inr rfl) (And.intro rfl (((v0 c1).2 c2).2 c3)))))))
set_option maxRecDepth 20000 in
theorem v6_hasNameTwice {g : Gl} {d : Nat} {Q : Int → Hp → Prop} {b : Int} {h : Hp} (hb : 4 ≤ b) (v0 : (((h b 5) ≤ (h b 6) → Q 0 h) ∧
 (¬ (h b 5) ≤ (h b 6) → Q 1 h))) : L0 g d m6_hasNameTwice (retI Q) 0 [some (LR 6 b)] h :=
 LW.run 40 [] k6_hasNameTwice (And.intro (show b ≠ 0 from z4 hb) (And.intro (show b ≠ 0 from z4 hb) (And.intro (fun c1 => And.intro (Or.inl rfl) (And.intro rfl (v0.1 c1))) (fun c1 => And.intro (Or.inr rfl) (And.intro rfl (v0.2 c1))))))
set_option maxRecDepth 20000 in
theorem v11_write {g : Gl} {d : Nat} {Q : Int → Hp → Prop} {x0 x1 : Int} {h : Hp} (hx0 : 4 ≤ x0) (v0 : ∀ h1 : Hp, h1 = hup h 12 1 0 →
 Good g d i5_has [LR 5 x0, LI x1] S0 h1 S0 (retI (fun r4 h2 =>
 ((r4 = 0 → L0 g d m11_write (retI Q) 29 [some (LR 5 x0), some (LI x1), some (LR 8 12), some (LI x1), some (LI x1)] h2) ∧
 (¬ r4 = 0 → 0 ≤ x1 ∧ x1 < lnn g (x0 + 9) ∧ L0 g d m11_write (retI Q) 29 [some (LR 5 x0), some (LI x1), some (LR 8 12), some (LI (w32 (x1 + (h2 (x0 + 9) x1)))), some (LI x1)] h2))))) : L0 g d m11_write (retI Q) 0 [some (LR 5 x0), some (LI x1), some (LR 8 12), none, none] h :=
 LW.run 40 [(29, [true, true, true, true, true])] k11_write (And.intro (show (12 : Int) ≠ 0 by decide) (And.intro (show x0 ≠ 0 from z4 hx0) (And.intro (Int.le_refl _) (Good.mI (v0 _ rfl) (fun r4 h2 v3 => And.intro (fun c5 => (v3.1 c5)) (fun c5 => And.intro (show x0 ≠ 0 from z4 hx0) (And.intro (show (x0 + 9) ≠ 0 from z4k hx0 (by decide)) (And.intro (v3.2 c5).1 (And.intro (v3.2 c5).2.1 ((v3.2 c5).2.2))))))))))
set_option maxRecDepth 20000 in
theorem v11_write_29 {g : Gl} {d : Nat} {Q : Int → Hp → Prop} {x0 x1 y3 y4 : Int} {h : Hp} (hx0 : 4 ≤ x0) (v0 : ((y3 ≤ y4 → Q (h 12 1) h) ∧
 (¬ y3 ≤ y4 → Good g d i11_writeNode [LR 5 x0, LI y4, LR 8 12] S0 h S0 (retV (fun h2 =>
 0 ≤ y4 ∧ y4 < lnn g (x0 + 9) ∧ ((¬ (h2 (x0 + 9) y4) = 1 → y4 < lnn g (x0 + 1) ∧ ((¬ (h2 (x0 + 1) y4) = 0 → L0 g d m11_write (retI Q) 29 [some (LR 5 x0), some (LI x1), some (LR 8 12), some (LI y3), some (LI (w32 (y4 + 1)))] h2) ∧
 ((h2 (x0 + 1) y4) = 0 → Good g d i8_add [LR 8 12, LI 40] S0 h2 S0 (retV (fun h6 =>
 L0 g d m11_write (retI Q) 29 [some (LR 5 x0), some (LI x1), some (LR 8 12), some (LI y3), some (LI (w32 (y4 + 1)))] h6))))) ∧
 ((h2 (x0 + 9) y4) = 1 → Good g d i11_writeBehind [LR 5 x0, LI y4, LI x1, LR 8 12] S0 h2 S0 (retV (fun h8 =>
 L0 g d m11_write (retI Q) 29 [some (LR 5 x0), some (LI x1), some (LR 8 12), some (LI y3), some (LI (w32 (y4 + 1)))] h8))))))))) : L0 g d m11_write (retI Q) 29 [some (LR 5 x0), some (LI x1), some (LR 8 12), some (LI y3), some (LI y4)] h :=
 LW.run 40 [(29, [true, true, true, true, true])] k11_write (And.intro (fun c1 => And.intro (show (12 : Int) ≠ 0 by decide) (And.intro rfl (v0.1 c1))) (fun c1 => And.intro (Int.le_refl _) (Good.mV (v0.2 c1) (fun h2 v3 => And.intro (show x0 ≠ 0 from z4 hx0) (And.intro (show (x0 + 9) ≠ 0 from z4k hx0 (by decide)) (And.intro v3.1 (And.intro v3.2.1 (And.intro (fun c4 => And.intro (show x0 ≠ 0 from z4 hx0) (And.intro (show (x0 + 1) ≠ 0 from z4k hx0 (by decide)) (And.intro v3.1 (And.intro (v3.2.2.1 c4).1 (And.intro (fun c5 => ((v3.2.2.1 c4).2.1 c5)) (fun c5 => And.intro (show (12 : Int) ≠ 0 by decide) (And.intro (Int.le_refl _) (Good.mV ((v3.2.2.1 c4).2.2 c5) (fun h6 v7 => v7))))))))) (fun c4 => And.intro (Int.le_refl _) (Good.mV (v3.2.2.2 c4) (fun h8 v9 => v9)))))))))))
set_option maxRecDepth 20000 in
theorem v11_writeNode {g : Gl} {d : Nat} {Q : Hp → Prop} {x0 x1 : Int} {h : Hp} (hx0 : 4 ≤ x0) (v0 : 0 ≤ x1 ∧ x1 < lnn g (x0 + 1) ∧ ((((h (x0 + 1) x1) < 0 ∨ 3 < (h (x0 + 1) x1)) → Good g d i8_add [LR 8 12, LI 33] S0 h S0 (retV (fun h2 =>
 Q h2))) ∧
 ((h (x0 + 1) x1) = 0 → x1 < lnn g (x0 + 2) ∧ Good g d i8_add [LR 8 12, LI (w32 (97 + (h (x0 + 2) x1)))] S0 h S0 (retV (fun h5 =>
 Q h5))) ∧
 ((h (x0 + 1) x1) = 1 → x1 < lnn g (x0 + 6) ∧ Good g d i8_addNumber [LR 8 12, LL (h (x0 + 6) x1)] S0 h S0 (retV (fun h8 =>
 Q h8))) ∧
 ((h (x0 + 1) x1) = 2 → Good g d i11_writeHole [LR 5 x0, LI x1, LR 8 12] S0 h S0 (retV (fun h11 =>
 Q h11))) ∧
 ((h (x0 + 1) x1) = 3 → Good g d i8_add [LR 8 12, LI 46] S0 h S0 (retV (fun h14 =>
 Good g d i8_add [LR 8 12, LI 46] S0 h14 S0 (retV (fun h16 =>
 Q h16))))))) : L0 g d m11_writeNode (retV Q) 0 [some (LR 5 x0), some (LI x1), some (LR 8 12)] h :=
 LW.run 40 [] k11_writeNode (And.intro (show x0 ≠ 0 from z4 hx0) (And.intro (show (x0 + 1) ≠ 0 from z4k hx0 (by decide)) (And.intro v0.1 (And.intro v0.2.1 (And.intro (fun c1 => And.intro (show (12 : Int) ≠ 0 by decide) (And.intro (Int.le_refl _) (Good.mV (v0.2.2.1 c1) (fun h2 v3 => And.intro rfl v3)))) (And.intro (fun c4 => And.intro (show x0 ≠ 0 from z4 hx0) (And.intro (show (x0 + 2) ≠ 0 from z4k hx0 (by decide)) (And.intro v0.1 (And.intro (v0.2.2.2.1 c4).1 (And.intro (show (12 : Int) ≠ 0 by decide) (And.intro (Int.le_refl _) (Good.mV (v0.2.2.2.1 c4).2 (fun h5 v6 => And.intro rfl v6)))))))) (And.intro (fun c7 => And.intro (show x0 ≠ 0 from z4 hx0) (And.intro (show (x0 + 6) ≠ 0 from z4k hx0 (by decide)) (And.intro v0.1 (And.intro (v0.2.2.2.2.1 c7).1 (And.intro (show (12 : Int) ≠ 0 by decide) (And.intro (Int.le_refl _) (Good.mV (v0.2.2.2.2.1 c7).2 (fun h8 v9 => And.intro rfl v9)))))))) (And.intro (fun c10 => And.intro (Int.le_refl _) (Good.mV (v0.2.2.2.2.2.1 c10) (fun h11 v12 => And.intro rfl v12))) (And.intro (fun c13 => And.intro (show (12 : Int) ≠ 0 by decide) (And.intro (Int.le_refl _) (Good.mV (v0.2.2.2.2.2.2 c13) (fun h14 v15 => And.intro (show (12 : Int) ≠ 0 by decide) (And.intro (Int.le_refl _) (Good.mV v15 (fun h16 v17 => And.intro rfl v17))))))) (trivial))))))))))
set_option maxRecDepth 20000 in
theorem v11_writeHole {g : Gl} {d : Nat} {Q : Hp → Prop} {x0 x1 : Int} {h : Hp} (hx0 : 4 ≤ x0) (v0 : Good g d i8_add [LR 8 12, LI 63] S0 h S0 (retV (fun h1 =>
 0 ≤ x1 ∧ x1 < lnn g (x0 + 4) ∧ (((h1 (x0 + 4) x1) = (-1) → L0 g d m11_writeHole (retV Q) 29 [some (LR 5 x0), some (LI x1), some (LR 8 12)] h1) ∧
 (¬ (h1 (x0 + 4) x1) = (-1) → Good g d i8_add [LR 8 12, LI (w32 (48 + (h1 (x0 + 4) x1)))] S0 h1 S0 (retV (fun h4 =>
 L0 g d m11_writeHole (retV Q) 29 [some (LR 5 x0), some (LI x1), some (LR 8 12)] h4))))))) : L0 g d m11_writeHole (retV Q) 0 [some (LR 5 x0), some (LI x1), some (LR 8 12)] h :=
 LW.run 40 [(29, [true, true, true]), (55, [true, true, true])] k11_writeHole (And.intro (show (12 : Int) ≠ 0 by decide) (And.intro (Int.le_refl _) (Good.mV v0 (fun h1 v2 => And.intro (show x0 ≠ 0 from z4 hx0) (And.intro (show (x0 + 4) ≠ 0 from z4k hx0 (by decide)) (And.intro v2.1 (And.intro v2.2.1 (And.intro (fun c3 => (v2.2.2.1 c3)) (fun c3 => And.intro (show x0 ≠ 0 from z4 hx0) (And.intro (show (x0 + 4) ≠ 0 from z4k hx0 (by decide)) (And.intro v2.1 (And.intro v2.2.1 (And.intro (show (12 : Int) ≠ 0 by decide) (And.intro (Int.le_refl _) (Good.mV (v2.2.2.2 c3) (fun h4 v5 => v5))))))))))))))))
set_option maxRecDepth 20000 in
theorem v11_writeHole_29 {g : Gl} {d : Nat} {Q : Hp → Prop} {x0 x1 : Int} {h : Hp} (hx0 : 4 ≤ x0) (v0 : 0 ≤ x1 ∧ x1 < lnn g (x0 + 3) ∧ (((h (x0 + 3) x1) = 0 → L0 g d m11_writeHole (retV Q) 55 [some (LR 5 x0), some (LI x1), some (LR 8 12)] h) ∧
 (¬ (h (x0 + 3) x1) = 0 → Good g d i8_add [LR 8 12, LI 58] S0 h S0 (retV (fun h2 =>
 Good g d i8_addNumber [LR 8 12, LL (h2 (x0 + 3) x1)] S0 h2 S0 (retV (fun h4 =>
 L0 g d m11_writeHole (retV Q) 55 [some (LR 5 x0), some (LI x1), some (LR 8 12)] h4))))))) : L0 g d m11_writeHole (retV Q) 29 [some (LR 5 x0), some (LI x1), some (LR 8 12)] h :=
 LW.run 40 [(29, [true, true, true]), (55, [true, true, true])] k11_writeHole (And.intro (show x0 ≠ 0 from z4 hx0) (And.intro (show (x0 + 3) ≠ 0 from z4k hx0 (by decide)) (And.intro v0.1 (And.intro v0.2.1 (And.intro (fun c1 => (v0.2.2.1 c1)) (fun c1 => And.intro (show (12 : Int) ≠ 0 by decide) (And.intro (Int.le_refl _) (Good.mV (v0.2.2.2 c1) (fun h2 v3 => And.intro (show x0 ≠ 0 from z4 hx0) (And.intro (show (x0 + 3) ≠ 0 from z4k hx0 (by decide)) (And.intro v0.1 (And.intro v0.2.1 (And.intro (show (12 : Int) ≠ 0 by decide) (And.intro (Int.le_refl _) (Good.mV v3 (fun h4 v5 => v5))))))))))))))))
set_option maxRecDepth 20000 in
theorem v11_writeHole_55 {g : Gl} {d : Nat} {Q : Hp → Prop} {x0 x1 : Int} {h : Hp} (hx0 : 4 ≤ x0) (v0 : 0 ≤ x1 ∧ x1 < lnn g (x0 + 5) ∧ (((h (x0 + 5) x1) = 0 ∨ (h (x0 + 5) x1) = 1) → (((h (x0 + 5) x1) = 0 → Q h) ∧
 (¬ (h (x0 + 5) x1) = 0 → Good g d i8_add [LR 8 12, LI 91] S0 h S0 (retV (fun h3 =>
 x1 < lnn g (x0 + 6) ∧ Good g d i8_addNumber [LR 8 12, LL (h3 (x0 + 6) x1)] S0 h3 S0 (retV (fun h5 =>
 Good g d i8_add [LR 8 12, LI 126] S0 h5 S0 (retV (fun h7 =>
 x1 < lnn g (x0 + 7) ∧ Good g d i8_addNumber [LR 8 12, LL (h7 (x0 + 7) x1)] S0 h7 S0 (retV (fun h9 =>
 Good g d i8_add [LR 8 12, LI 93] S0 h9 S0 (retV (fun h11 =>
 Q h11)))))))))))))) : L0 g d m11_writeHole (retV Q) 55 [some (LR 5 x0), some (LI x1), some (LR 8 12)] h :=
 LW.run 40 [(29, [true, true, true]), (55, [true, true, true])] k11_writeHole (And.intro (show x0 ≠ 0 from z4 hx0) (And.intro (show (x0 + 5) ≠ 0 from z4k hx0 (by decide)) (And.intro v0.1 (And.intro v0.2.1 (fun c1 => And.intro (fun c2 => And.intro rfl ((v0.2.2 c1).1 c2)) (fun c2 => And.intro (show (12 : Int) ≠ 0 by decide) (And.intro (Int.le_refl _) (Good.mV ((v0.2.2 c1).2 c2) (fun h3 v4 => And.intro (show x0 ≠ 0 from z4 hx0) (And.intro (show (x0 + 6) ≠ 0 from z4k hx0 (by decide)) (And.intro v0.1 (And.intro v4.1 (And.intro (show (12 : Int) ≠ 0 by decide) (And.intro (Int.le_refl _) (Good.mV v4.2 (fun h5 v6 => And.intro (show (12 : Int) ≠ 0 by decide) (And.intro (Int.le_refl _) (Good.mV v6 (fun h7 v8 => And.intro (show x0 ≠ 0 from z4 hx0) (And.intro (show (x0 + 7) ≠ 0 from z4k hx0 (by decide)) (And.intro v0.1 (And.intro v8.1 (And.intro (show (12 : Int) ≠ 0 by decide) (And.intro (Int.le_refl _) (Good.mV v8.2 (fun h9 v10 => And.intro (show (12 : Int) ≠ 0 by decide) (And.intro (Int.le_refl _) (Good.mV v10 (fun h11 v12 => And.intro rfl v12)))))))))))))))))))))))))))))
set_option maxRecDepth 20000 in
theorem v11_writeBehind {g : Gl} {d : Nat} {Q : Hp → Prop} {x0 x1 x2 : Int} {h : Hp} (hx0 : 4 ≤ x0) (v0 : L0 g d m11_writeBehind (retV Q) 3 [some (LR 5 x0), some (LI x1), some (LI x2), some (LR 8 12), some (LI x1), none] h) : L0 g d m11_writeBehind (retV Q) 0 [some (LR 5 x0), some (LI x1), some (LI x2), some (LR 8 12), none, none] h :=
 LW.run 40 [(3, [true, true, true, true, true, false])] k11_writeBehind (v0)
set_option maxRecDepth 20000 in
theorem v11_writeBehind_3 {g : Gl} {d : Nat} {Q : Hp → Prop} {x0 x1 x2 y4 : Int} {h : Hp} (hx0 : 4 ≤ x0) (v0 : ((y4 ≤ x2 → Q h) ∧
 (¬ y4 ≤ x2 → 0 ≤ y4 ∧ y4 < lnn g (x0 + 8) ∧ (((h (x0 + 8) y4) < x2 → Q h) ∧
 (¬ (h (x0 + 8) y4) < x2 → 0 ≤ ((h (x0 + 8) y4)) ∧ ((h (x0 + 8) y4)) < lnn g (x0 + 9) ∧ (((w32 ((h (x0 + 8) y4) + (h (x0 + 9) (h (x0 + 8) y4)))) = (w32 (x1 + 1)) → ((h (x0 + 8) y4)) < lnn g (x0 + 1) ∧ ((¬ (h (x0 + 1) (h (x0 + 8) y4)) = 0 → L0 g d m11_writeBehind (retV Q) 3 [some (LR 5 x0), some (LI x1), some (LI x2), some (LR 8 12), some (LI (h (x0 + 8) y4)), none] h) ∧
 ((h (x0 + 1) (h (x0 + 8) y4)) = 0 → Good g d i8_add [LR 8 12, LI 41] S0 h S0 (retV (fun h5 =>
 L0 g d m11_writeBehind (retV Q) 3 [some (LR 5 x0), some (LI x1), some (LI x2), some (LR 8 12), some (LI (h (x0 + 8) y4)), none] h5))))) ∧
 (¬ (w32 ((h (x0 + 8) y4) + (h (x0 + 9) (h (x0 + 8) y4)))) = (w32 (x1 + 1)) → Good g d i8_add [LR 8 12, LI 44] S0 h S0 (retV (fun h7 =>
 Q h7))))))))) : L0 g d m11_writeBehind (retV Q) 3 [some (LR 5 x0), some (LI x1), some (LI x2), some (LR 8 12), some (LI y4), none] h :=
 LW.run 40 [(3, [true, true, true, true, true, false])] k11_writeBehind (And.intro (fun c1 => And.intro rfl (v0.1 c1)) (fun c1 => And.intro (show x0 ≠ 0 from z4 hx0) (And.intro (show (x0 + 8) ≠ 0 from z4k hx0 (by decide)) (And.intro (v0.2 c1).1 (And.intro (v0.2 c1).2.1 (And.intro (fun c2 => And.intro rfl ((v0.2 c1).2.2.1 c2)) (fun c2 => And.intro (show x0 ≠ 0 from z4 hx0) (And.intro (show (x0 + 8) ≠ 0 from z4k hx0 (by decide)) (And.intro (v0.2 c1).1 (And.intro (v0.2 c1).2.1 (And.intro (show x0 ≠ 0 from z4 hx0) (And.intro (show (x0 + 9) ≠ 0 from z4k hx0 (by decide)) (And.intro ((v0.2 c1).2.2.2 c2).1 (And.intro ((v0.2 c1).2.2.2 c2).2.1 (And.intro (fun c3 => And.intro (show x0 ≠ 0 from z4 hx0) (And.intro (show (x0 + 1) ≠ 0 from z4k hx0 (by decide)) (And.intro ((v0.2 c1).2.2.2 c2).1 (And.intro (((v0.2 c1).2.2.2 c2).2.2.1 c3).1 (And.intro (fun c4 => ((((v0.2 c1).2.2.2 c2).2.2.1 c3).2.1 c4)) (fun c4 => And.intro (show (12 : Int) ≠ 0 by decide) (And.intro (Int.le_refl _) (Good.mV ((((v0.2 c1).2.2.2 c2).2.2.1 c3).2.2 c4) (fun h5 v6 => v6))))))))) (fun c3 => And.intro (show (12 : Int) ≠ 0 by decide) (And.intro (Int.le_refl _) (Good.mV (((v0.2 c1).2.2.2 c2).2.2.2 c3) (fun h7 v8 => And.intro rfl v8)))))))))))))))))))
set_option maxRecDepth 20000 in
theorem v8_byteAt {g : Gl} {d : Nat} {Q : Int → Hp → Prop} {t x1 : Int} {h : Hp} (ht : 4 ≤ t) (v0 : ((x1 < 0 → Q (-1) h) ∧
 (¬ x1 < 0 → (((h t 1) ≤ x1 → Q (-1) h) ∧
 (¬ (h t 1) ≤ x1 → 0 ≤ x1 ∧ x1 < lnn g (t + 1) ∧ Q (h (t + 1) x1) h))))) : L0 g d m8_byteAt (retI Q) 0 [some (LR 8 t), some (LI x1)] h :=
 LW.run 40 [] k8_byteAt (And.intro (fun c1 => And.intro rfl (v0.1 c1)) (fun c1 => And.intro (show t ≠ 0 from z4 ht) (And.intro (fun c2 => And.intro rfl ((v0.2 c1).1 c2)) (fun c2 => And.intro (show t ≠ 0 from z4 ht) (And.intro (show (t + 1) ≠ 0 from z4k ht (by decide)) (And.intro ((v0.2 c1).2 c2).1 (And.intro ((v0.2 c1).2 c2).2.1 (And.intro rfl ((v0.2 c1).2 c2).2.2))))))))
set_option maxRecDepth 20000 in
theorem v8_add {g : Gl} {d : Nat} {Q : Hp → Prop} {t x1 : Int} {h : Hp} (ht : 4 ≤ t) (v0 : (((lnn g (t + 1)) ≤ (h t 1) → Q h) ∧
 (¬ (lnn g (t + 1)) ≤ (h t 1) → 0 ≤ (h t 1) ∧ (h t 1) < lnn g (t + 1) ∧ ∀ h2 : Hp, h2 = hup h (t + 1) (h t 1) x1 →
 ∀ h3 : Hp, h3 = hup h2 t 1 (w32 ((h2 t 1) + 1)) →
 Q h3))) : L0 g d m8_add (retV Q) 0 [some (LR 8 t), some (LI x1)] h :=
 LW.run 40 [] k8_add (And.intro (show t ≠ 0 from z4 ht) (And.intro (show t ≠ 0 from z4 ht) (And.intro (show (t + 1) ≠ 0 from z4k ht (by decide)) (And.intro (fun c1 => And.intro rfl (v0.1 c1)) (fun c1 => And.intro (show t ≠ 0 from z4 ht) (And.intro (show t ≠ 0 from z4 ht) (And.intro (show 4 ≤ (t + 1) from z4g ht (by decide)) (And.intro (v0.2 c1).1 (And.intro (v0.2 c1).2.1 (And.intro (show t ≠ 0 from z4 ht) (And.intro (show t ≠ 0 from z4 ht) (And.intro rfl (((v0.2 c1).2.2 _ rfl) _ rfl)))))))))))))
set_option maxRecDepth 20000 in
theorem v8_addFour {g : Gl} {d : Nat} {Q : Hp → Prop} {x1 : Int} {h : Hp} (v0 : L0 g d m8_addFour (retV Q) 3 [some (LR 8 10), some (LI x1), some (LI 24)] h) : L0 g d m8_addFour (retV Q) 0 [some (LR 8 10), some (LI x1), none] h :=
 LW.run 40 [(3, [true, true, true])] k8_addFour (v0)
set_option maxRecDepth 20000 in
theorem v8_addFour_3 {g : Gl} {d : Nat} {Q : Hp → Prop} {x1 y2 : Int} {h : Hp} (v0 : ((y2 < 0 → Q h) ∧
 (¬ y2 < 0 → Good g d i8_add [LR 8 10, LI (iandI (iushrI x1 y2) 255)] S0 h S0 (retV (fun h2 =>
 L0 g d m8_addFour (retV Q) 3 [some (LR 8 10), some (LI x1), some (LI (w32 (y2 + (-8))))] h2))))) : L0 g d m8_addFour (retV Q) 3 [some (LR 8 10), some (LI x1), some (LI y2)] h :=
 LW.run 40 [(3, [true, true, true])] k8_addFour (And.intro (fun c1 => And.intro rfl (v0.1 c1)) (fun c1 => And.intro (show (10 : Int) ≠ 0 by decide) (And.intro (Int.le_refl _) (Good.mV (v0.2 c1) (fun h2 v3 => v3)))))
set_option maxRecDepth 20000 in
theorem v8_addNumber {g : Gl} {d : Nat} {Q : Hp → Prop} {x1 : Int} {h : Hp} (v0 : ((0 ≤ (lcmpI x1 0) → L0 g d m8_addNumber (retV Q) 23 [some (LR 8 12), none, none, some (LL (if 0 < x1 then x1 else w64 (-x1))), none, some (LL 1), none, some (LI 1)] h) ∧
 (¬ 0 ≤ (lcmpI x1 0) → Good g d i8_add [LR 8 12, LI 45] S0 h S0 (retV (fun h2 =>
 L0 g d m8_addNumber (retV Q) 23 [some (LR 8 12), none, none, some (LL (if 0 < x1 then x1 else w64 (-x1))), none, some (LL 1), none, some (LI 1)] h2))))) : L0 g d m8_addNumber (retV Q) 0 [some (LR 8 12), some (LL x1), none, none, none, none, none, none] h :=
 LW.run 40 [(23, [true, false, false, true, false, true, false, true]), (55, [true, false, false, true, false, true, false, false])] k8_addNumber (And.intro (fun c1 => And.intro (Int.le_refl _) ((v0.1 c1))) (fun c1 => And.intro (show (12 : Int) ≠ 0 by decide) (And.intro (Int.le_refl _) (Good.mV (v0.2 c1) (fun h2 v3 => And.intro (Int.le_refl _) (v3))))))
set_option maxRecDepth 20000 in
theorem v8_addNumber_23 {g : Gl} {d : Nat} {Q : Hp → Prop} {y3 y5 y7 : Int} {h : Hp} (v0 : ((18 ≤ y7 → L0 g d m8_addNumber (retV Q) 55 [some (LR 8 12), none, none, some (LL y3), none, some (LL y5), none, none] h) ∧
 (¬ 18 ≤ y7 → y5 ≠ 0 ∧ (((lcmpI (w64 (Int.tdiv y3 y5)) 10) < 0 → L0 g d m8_addNumber (retV Q) 55 [some (LR 8 12), none, none, some (LL y3), none, some (LL y5), none, none] h) ∧
 (¬ (lcmpI (w64 (Int.tdiv y3 y5)) 10) < 0 → L0 g d m8_addNumber (retV Q) 23 [some (LR 8 12), none, none, some (LL y3), none, some (LL (w64 (y5 * 10))), none, some (LI (w32 (y7 + 1)))] h))))) : L0 g d m8_addNumber (retV Q) 23 [some (LR 8 12), none, none, some (LL y3), none, some (LL y5), none, some (LI y7)] h :=
 LW.run 40 [(23, [true, false, false, true, false, true, false, true]), (55, [true, false, false, true, false, true, false, false])] k8_addNumber (And.intro (fun c1 => (v0.1 c1)) (fun c1 => And.intro (v0.2 c1).1 (And.intro (fun c2 => ((v0.2 c1).2.1 c2)) (fun c2 => ((v0.2 c1).2.2 c2)))))
set_option maxRecDepth 20000 in
theorem v8_addNumber_55 {g : Gl} {d : Nat} {Q : Hp → Prop} {y3 y5 : Int} {h : Hp} (v0 : (((lcmpI y5 0) ≤ 0 → Q h) ∧
 (¬ (lcmpI y5 0) ≤ 0 → y5 ≠ 0 ∧ Good g d i8_add [LR 8 12, LI (w32 (48 + (w32 (w64 ((w64 (Int.tdiv y3 y5)) - Int.tdiv (w64 (Int.tdiv y3 y5)) 10 * 10)))))] S0 h S0 (retV (fun h2 =>
 L0 g d m8_addNumber (retV Q) 55 [some (LR 8 12), none, none, some (LL y3), none, some (LL (w64 (Int.tdiv y5 10))), none, none] h2))))) : L0 g d m8_addNumber (retV Q) 55 [some (LR 8 12), none, none, some (LL y3), none, some (LL y5), none, none] h :=
 LW.run 40 [(23, [true, false, false, true, false, true, false, true]), (55, [true, false, false, true, false, true, false, false])] k8_addNumber (And.intro (fun c1 => And.intro rfl (v0.1 c1)) (fun c1 => And.intro (v0.2 c1).1 (And.intro (show (10 : Int) ≠ 0 by decide) (And.intro (show (12 : Int) ≠ 0 by decide) (And.intro (Int.le_refl _) (Good.mV (v0.2 c1).2 (fun h2 v3 => And.intro (show (10 : Int) ≠ 0 by decide) (v3))))))))
