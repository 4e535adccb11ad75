/-! what the stretches of methods come to (written by program, wip/whole/gen_vc.py) -/

set_option maxRecDepth 20000 in
theorem v7_read {g : Gl} {d : Nat} {Q : Int → Hp → Prop} {x1 x2 : Int} {h : Hp} (v0 : (x1 = 0 ∨ x1 = 1) ∧ ∀ h1 : Hp, h1 = hup h 597 3 x1 →
 ∀ h2 : Hp, h2 = hup h1 597 4 x2 →
 ∀ h3 : Hp, h3 = hup h2 597 5 0 →
 ∀ h4 : Hp, h4 = hup h3 597 7 0 →
 ∀ h5 : Hp, h5 = hup h4 597 8 (-1) →
 ∀ h6 : Hp, h6 = hup h5 24 9 0 →
 Good g d i7_readNode [LR 7 597, LI 0] S0 h6 S0 (retI (fun r9 h7 =>
 ((r9 = 0 → ∀ h11 : Hp, h11 = hup h7 10 1 0 →
 Q (h11 597 7) h11) ∧
 (¬ r9 = 0 → Good g d i7_skipBlanks [LR 7 597] S0 h7 S0 (retV (fun h12 =>
 (((h12 10 1) ≤ (h12 597 5) → ∀ h15 : Hp, h15 = hup h12 10 1 0 →
 Q (h15 597 7) h15) ∧
 (¬ (h12 10 1) ≤ (h12 597 5) → Good g d i7_fail [LR 7 597, LI 1, LI (h12 597 5)] S0 h12 S0 (retI (fun r18 h16 =>
 ∀ h19 : Hp, h19 = hup h16 10 1 0 →
 Q (h19 597 7) h19))))))))))) : L0 g d m7_read (retI Q) 0 [some (LR 7 597), some (LI x1), some (LI x2)] h :=
 LW.run 40 [] k7_read (And.intro (show (597 : Int) ≠ 0 by decide) (And.intro v0.1 (And.intro (show (597 : Int) ≠ 0 by decide) (And.intro (show (597 : Int) ≠ 0 by decide) (And.intro (show (597 : Int) ≠ 0 by decide) (And.intro (show (597 : Int) ≠ 0 by decide) (And.intro (show (597 : Int) ≠ 0 by decide) (And.intro (show (24 : Int) ≠ 0 by decide) (And.intro (show (597 : Int) ≠ 0 by decide) (And.intro (Int.le_refl _) (Good.mI ((((((v0.2 _ rfl) _ rfl) _ rfl) _ rfl) _ rfl) _ rfl) (fun r9 h7 v8 => And.intro (fun c10 => And.intro (show (597 : Int) ≠ 0 by decide) (And.intro (show (10 : Int) ≠ 0 by decide) (And.intro (show (597 : Int) ≠ 0 by decide) (And.intro rfl ((v8.1 c10) _ rfl))))) (fun c10 => And.intro (show (597 : Int) ≠ 0 by decide) (And.intro (Int.le_refl _) (Good.mV (v8.2 c10) (fun h12 v13 => And.intro (show (597 : Int) ≠ 0 by decide) (And.intro (show (597 : Int) ≠ 0 by decide) (And.intro (show (10 : Int) ≠ 0 by decide) (And.intro (fun c14 => And.intro (show (597 : Int) ≠ 0 by decide) (And.intro (show (10 : Int) ≠ 0 by decide) (And.intro (show (597 : Int) ≠ 0 by decide) (And.intro rfl ((v13.1 c14) _ rfl))))) (fun c14 => And.intro (show (597 : Int) ≠ 0 by decide) (And.intro (show (597 : Int) ≠ 0 by decide) (And.intro (Int.le_refl _) (Good.mI (v13.2 c14) (fun r18 h16 v17 => And.intro (show (597 : Int) ≠ 0 by decide) (And.intro (show (10 : Int) ≠ 0 by decide) (And.intro (show (597 : Int) ≠ 0 by decide) (And.intro rfl (v17 _ rfl))))))))))))))))))))))))))))
theorem g7_read {g : Gl} {d : Nat} {Q : LV → Hp → Prop} {x1 x2 : Int} {h : Hp} (X : inI x1 → inI x2 → L0 g d m7_read Q 0 [some (LR 7 597), some (LI x1), some (LI x2)] h) : Good g (d + 1) i7_read [LR 7 597, LI x1, LI x2] S0 h S0 Q := Good.body (M := m7_read) k7_read (Int.le_refl _) (Nat.le_of_ble_eq_true rfl) (fun hok => X (hok _ (List.mem_cons_of_mem _ List.mem_cons_self)) (hok _ (List.mem_cons_of_mem _ (List.mem_cons_of_mem _ List.mem_cons_self))))
set_option maxRecDepth 20000 in
theorem v7_fail {g : Gl} {d : Nat} {Q : Int → Hp → Prop} {x1 x2 : Int} {h : Hp} (v0 : ∀ h1 : Hp, h1 = hup h 597 7 x1 →
 ∀ h2 : Hp, h2 = hup h1 597 8 x2 →
 Q 0 h2) : L0 g d m7_fail (retI Q) 0 [some (LR 7 597), some (LI x1), some (LI x2)] h :=
 LW.run 40 [] k7_fail (And.intro (show (597 : Int) ≠ 0 by decide) (And.intro (show (597 : Int) ≠ 0 by decide) (And.intro (Or.inl rfl) (And.intro rfl ((v0 _ rfl) _ rfl)))))
theorem g7_fail {g : Gl} {d : Nat} {Q : LV → Hp → Prop} {x1 x2 : Int} {h : Hp} (X : inI x1 → inI x2 → L0 g d m7_fail Q 0 [some (LR 7 597), some (LI x1), some (LI x2)] h) : Good g (d + 1) i7_fail [LR 7 597, LI x1, LI x2] S0 h S0 Q := Good.body (M := m7_fail) k7_fail (Int.le_refl _) (Nat.le_of_ble_eq_true rfl) (fun hok => X (hok _ (List.mem_cons_of_mem _ List.mem_cons_self)) (hok _ (List.mem_cons_of_mem _ (List.mem_cons_of_mem _ List.mem_cons_self))))
set_option maxRecDepth 20000 in
theorem v7_skipBlanks_0 {g : Gl} {d : Nat} {Q : Hp → Prop} {h : Hp} (v0 : (((h 10 1) ≤ (h 597 5) → Q h) ∧
 (¬ (h 10 1) ≤ (h 597 5) → 0 ≤ (h 597 5) ∧ (h 597 5) < 1000 ∧ (((h 11 (h 597 5)) = 32 → ∀ h3 : Hp, h3 = hup h 597 5 (w32 ((h 597 5) + 1)) →
 L0 g d m7_skipBlanks (retV Q) 0 [some (LR 7 597)] h3) ∧
 (¬ (h 11 (h 597 5)) = 32 → ((¬ (h 11 (h 597 5)) = 10 → Q h) ∧
 ((h 11 (h 597 5)) = 10 → ∀ h5 : Hp, h5 = hup h 597 5 (w32 ((h 597 5) + 1)) →
 L0 g d m7_skipBlanks (retV Q) 0 [some (LR 7 597)] h5))))))) : L0 g d m7_skipBlanks (retV Q) 0 [some (LR 7 597)] h :=
 LW.run 40 [(0, [true])] k7_skipBlanks (And.intro (show (597 : Int) ≠ 0 by decide) (And.intro (show (597 : Int) ≠ 0 by decide) (And.intro (show (10 : Int) ≠ 0 by decide) (And.intro (fun c1 => And.intro rfl (v0.1 c1)) (fun c1 => And.intro (show (597 : Int) ≠ 0 by decide) (And.intro (show (10 : Int) ≠ 0 by decide) (And.intro (show (597 : Int) ≠ 0 by decide) (And.intro (show (11 : Int) ≠ 0 by decide) (And.intro (v0.2 c1).1 (And.intro (v0.2 c1).2.1 (And.intro (fun c2 => And.intro (show (597 : Int) ≠ 0 by decide) (And.intro (show (597 : Int) ≠ 0 by decide) ((((v0.2 c1).2.2.1 c2) _ rfl)))) (fun c2 => And.intro (show (597 : Int) ≠ 0 by decide) (And.intro (show (10 : Int) ≠ 0 by decide) (And.intro (show (597 : Int) ≠ 0 by decide) (And.intro (show (11 : Int) ≠ 0 by decide) (And.intro (v0.2 c1).1 (And.intro (v0.2 c1).2.1 (And.intro (fun c4 => And.intro rfl (((v0.2 c1).2.2.2 c2).1 c4)) (fun c4 => And.intro (show (597 : Int) ≠ 0 by decide) (And.intro (show (597 : Int) ≠ 0 by decide) (((((v0.2 c1).2.2.2 c2).2 c4) _ rfl))))))))))))))))))))))
theorem g7_skipBlanks {g : Gl} {d : Nat} {Q : LV → Hp → Prop} {h : Hp} (X : L0 g d m7_skipBlanks Q 0 [some (LR 7 597)] h) : Good g (d + 1) i7_skipBlanks [LR 7 597] S0 h S0 Q := Good.body (M := m7_skipBlanks) k7_skipBlanks (Int.le_refl _) (Nat.le_of_ble_eq_true rfl) (fun hok => X )
set_option maxRecDepth 20000 in
theorem v7_endOfDigits {g : Gl} {d : Nat} {Q : Int → Hp → Prop} {x1 : Int} {h : Hp} (v0 : L0 g d m7_endOfDigits (retI Q) 2 [some (LR 7 597), none, some (LI x1)] h) : L0 g d m7_endOfDigits (retI Q) 0 [some (LR 7 597), some (LI x1), none] h :=
 LW.run 40 [(2, [true, false, true])] k7_endOfDigits (v0)
set_option maxRecDepth 20000 in
theorem v7_endOfDigits_2 {g : Gl} {d : Nat} {Q : Int → Hp → Prop} {y2 : Int} {h : Hp} (v0 : (((h 10 1) ≤ y2 → Q y2 h) ∧
 (¬ (h 10 1) ≤ y2 → 0 ≤ y2 ∧ y2 < 1000 ∧ (((h 11 y2) < 48 → Q y2 h) ∧
 (¬ (h 11 y2) < 48 → ((57 < (h 11 y2) → Q y2 h) ∧
 (¬ 57 < (h 11 y2) → L0 g d m7_endOfDigits (retI Q) 2 [some (LR 7 597), none, some (LI (w32 (y2 + 1)))] h))))))) : L0 g d m7_endOfDigits (retI Q) 2 [some (LR 7 597), none, some (LI y2)] h :=
 LW.run 40 [(2, [true, false, true])] k7_endOfDigits (And.intro (show (597 : Int) ≠ 0 by decide) (And.intro (show (10 : Int) ≠ 0 by decide) (And.intro (fun c1 => And.intro rfl (v0.1 c1)) (fun c1 => And.intro (show (597 : Int) ≠ 0 by decide) (And.intro (show (10 : Int) ≠ 0 by decide) (And.intro (show (11 : Int) ≠ 0 by decide) (And.intro (v0.2 c1).1 (And.intro (v0.2 c1).2.1 (And.intro (fun c2 => And.intro rfl ((v0.2 c1).2.2.1 c2)) (fun c2 => And.intro (show (597 : Int) ≠ 0 by decide) (And.intro (show (10 : Int) ≠ 0 by decide) (And.intro (show (11 : Int) ≠ 0 by decide) (And.intro (v0.2 c1).1 (And.intro (v0.2 c1).2.1 (And.intro (fun c3 => And.intro rfl (((v0.2 c1).2.2.2 c2).1 c3)) (fun c3 => (((v0.2 c1).2.2.2 c2).2 c3)))))))))))))))))
theorem g7_endOfDigits {g : Gl} {d : Nat} {Q : LV → Hp → Prop} {x1 : Int} {h : Hp} (X : inI x1 → L0 g d m7_endOfDigits Q 0 [some (LR 7 597), some (LI x1), none] h) : Good g (d + 1) i7_endOfDigits [LR 7 597, LI x1] S0 h S0 Q := Good.body (M := m7_endOfDigits) k7_endOfDigits (Int.le_refl _) (Nat.le_of_ble_eq_true rfl) (fun hok => X (hok _ (List.mem_cons_of_mem _ List.mem_cons_self)))
set_option maxRecDepth 20000 in
theorem v7_takeDigits {g : Gl} {d : Nat} {Q : Hp → Prop} {x1 x2 : Int} {h : Hp} (v0 : ∀ h1 : Hp, h1 = hup h 597 6 0 →
 L0 g d m7_takeDigits (retV Q) 7 [some (LR 7 597), none, some (LI x2), some (LI x1)] h1) : L0 g d m7_takeDigits (retV Q) 0 [some (LR 7 597), some (LI x1), some (LI x2), none] h :=
 LW.run 40 [(7, [true, false, true, true])] k7_takeDigits (And.intro (show (597 : Int) ≠ 0 by decide) ((v0 _ rfl)))
set_option maxRecDepth 20000 in
theorem v7_takeDigits_7 {g : Gl} {d : Nat} {Q : Hp → Prop} {x2 y3 : Int} {h : Hp} (v0 : ((x2 ≤ y3 → ∀ h2 : Hp, h2 = hup h 597 5 x2 →
 Q h2) ∧
 (¬ x2 ≤ y3 → (((h 10 1) ≤ y3 → ∀ h4 : Hp, h4 = hup h 597 5 x2 →
 Q h4) ∧
 (¬ (h 10 1) ≤ y3 → 0 ≤ y3 ∧ y3 < 1000 ∧ ∀ h5 : Hp, h5 = hup h 597 6 (w64 ((w64 ((h 597 6) * 10)) + (w32 ((h 11 y3) - 48)))) →
 L0 g d m7_takeDigits (retV Q) 7 [some (LR 7 597), none, some (LI x2), some (LI (w32 (y3 + 1)))] h5))))) : L0 g d m7_takeDigits (retV Q) 7 [some (LR 7 597), none, some (LI x2), some (LI y3)] h :=
 LW.run 40 [(7, [true, false, true, true])] k7_takeDigits (And.intro (fun c1 => And.intro (show (597 : Int) ≠ 0 by decide) (And.intro rfl ((v0.1 c1) _ rfl))) (fun c1 => And.intro (show (597 : Int) ≠ 0 by decide) (And.intro (show (10 : Int) ≠ 0 by decide) (And.intro (fun c3 => And.intro (show (597 : Int) ≠ 0 by decide) (And.intro rfl (((v0.2 c1).1 c3) _ rfl))) (fun c3 => And.intro (show (597 : Int) ≠ 0 by decide) (And.intro (show (597 : Int) ≠ 0 by decide) (And.intro (show (10 : Int) ≠ 0 by decide) (And.intro (show (11 : Int) ≠ 0 by decide) (And.intro ((v0.2 c1).2 c3).1 (And.intro ((v0.2 c1).2 c3).2.1 (And.intro (show (597 : Int) ≠ 0 by decide) ((((v0.2 c1).2 c3).2.2 _ rfl)))))))))))))
theorem g7_takeDigits {g : Gl} {d : Nat} {Q : LV → Hp → Prop} {x1 x2 : Int} {h : Hp} (X : inI x1 → inI x2 → L0 g d m7_takeDigits Q 0 [some (LR 7 597), some (LI x1), some (LI x2), none] h) : Good g (d + 1) i7_takeDigits [LR 7 597, LI x1, LI x2] S0 h S0 Q := Good.body (M := m7_takeDigits) k7_takeDigits (Int.le_refl _) (Nat.le_of_ble_eq_true rfl) (fun hok => X (hok _ (List.mem_cons_of_mem _ List.mem_cons_self)) (hok _ (List.mem_cons_of_mem _ (List.mem_cons_of_mem _ List.mem_cons_self))))
set_option maxRecDepth 20000 in
theorem v7_readNode {g : Gl} {d : Nat} {Q : Int → Hp → Prop} {x1 : Int} {h : Hp} (v0 : Good g d i7_skipBlanks [LR 7 597] S0 h S0 (retV (fun h1 =>
 Good g d i8_byteAt [LR 8 10, LI (h1 597 5)] S0 h1 S0 (retI (fun r5 h3 =>
 ((x1 ≤ 12 → ((r5 < 97 → L0 g d m7_readNode (retI Q) 54 [some (LR 7 597), some (LI x1), some (LI r5)] h3) ∧
 (¬ r5 < 97 → ((122 < r5 → L0 g d m7_readNode (retI Q) 54 [some (LR 7 597), some (LI x1), some (LI r5)] h3) ∧
 (¬ 122 < r5 → Good g d i7_readHead [LR 7 597, LI (w32 (r5 - 97)), LI x1] S0 h3 S0 (retI (fun r11 h9 =>
 (r11 = 0 ∨ r11 = 1) ∧ Q r11 h9))))))) ∧
 (¬ x1 ≤ 12 → Good g d i7_fail [LR 7 597, LI 5, LI (h3 597 5)] S0 h3 S0 (retI (fun r14 h12 =>
 (r14 = 0 ∨ r14 = 1) ∧ Q r14 h12))))))))) : L0 g d m7_readNode (retI Q) 0 [some (LR 7 597), some (LI x1), none] h :=
 LW.run 40 [(54, [true, true, true]), (77, [true, true, true]), (95, [true, true, true]), (115, [true, true, true]), (135, [true, false, false])] k7_readNode (And.intro (show (597 : Int) ≠ 0 by decide) (And.intro (Int.le_refl _) (Good.mV v0 (fun h1 v2 => And.intro (show (597 : Int) ≠ 0 by decide) (And.intro (show (597 : Int) ≠ 0 by decide) (And.intro (show (10 : Int) ≠ 0 by decide) (And.intro (Int.le_refl _) (Good.mI v2 (fun r5 h3 v4 => And.intro (fun c6 => And.intro (fun c7 => ((v4.1 c6).1 c7)) (fun c7 => And.intro (fun c8 => (((v4.1 c6).2 c7).1 c8)) (fun c8 => And.intro (show (597 : Int) ≠ 0 by decide) (And.intro (Int.le_refl _) (Good.mI (((v4.1 c6).2 c7).2 c8) (fun r11 h9 v10 => And.intro v10.1 (And.intro rfl v10.2))))))) (fun c6 => And.intro (show (597 : Int) ≠ 0 by decide) (And.intro (show (597 : Int) ≠ 0 by decide) (And.intro (Int.le_refl _) (Good.mI (v4.2 c6) (fun r14 h12 v13 => And.intro v13.1 (And.intro rfl v13.2)))))))))))))))
set_option maxRecDepth 20000 in
theorem v7_readNode_54 {g : Gl} {d : Nat} {Q : Int → Hp → Prop} {x1 y2 : Int} {h : Hp} (v0 : ((y2 = 45 → Good g d i7_readNumberNode [LR 7 597] S0 h S0 (retI (fun r4 h2 =>
 (r4 = 0 ∨ r4 = 1) ∧ Q r4 h2))) ∧
 (¬ y2 = 45 → ((y2 < 48 → L0 g d m7_readNode (retI Q) 77 [some (LR 7 597), some (LI x1), some (LI y2)] h) ∧
 (¬ y2 < 48 → ((57 < y2 → L0 g d m7_readNode (retI Q) 77 [some (LR 7 597), some (LI x1), some (LI y2)] h) ∧
 (¬ 57 < y2 → Good g d i7_readNumberNode [LR 7 597] S0 h S0 (retI (fun r9 h7 =>
 (r9 = 0 ∨ r9 = 1) ∧ Q r9 h7))))))))) : L0 g d m7_readNode (retI Q) 54 [some (LR 7 597), some (LI x1), some (LI y2)] h :=
 LW.run 40 [(54, [true, true, true]), (77, [true, true, true]), (95, [true, true, true]), (115, [true, true, true]), (135, [true, false, false])] k7_readNode (And.intro (fun c1 => And.intro (show (597 : Int) ≠ 0 by decide) (And.intro (Int.le_refl _) (Good.mI (v0.1 c1) (fun r4 h2 v3 => And.intro v3.1 (And.intro rfl v3.2))))) (fun c1 => And.intro (fun c5 => ((v0.2 c1).1 c5)) (fun c5 => And.intro (fun c6 => (((v0.2 c1).2 c5).1 c6)) (fun c6 => And.intro (show (597 : Int) ≠ 0 by decide) (And.intro (Int.le_refl _) (Good.mI (((v0.2 c1).2 c5).2 c6) (fun r9 h7 v8 => And.intro v8.1 (And.intro rfl v8.2))))))))
set_option maxRecDepth 20000 in
theorem v7_readNode_77 {g : Gl} {d : Nat} {Q : Int → Hp → Prop} {x1 y2 : Int} {h : Hp} (v0 : (((h 597 3) = 0 ∨ (h 597 3) = 1) → (((h 597 3) = 0 → L0 g d m7_readNode (retI Q) 95 [some (LR 7 597), some (LI x1), some (LI y2)] h) ∧
 (¬ (h 597 3) = 0 → ((¬ y2 = 63 → L0 g d m7_readNode (retI Q) 95 [some (LR 7 597), some (LI x1), some (LI y2)] h) ∧
 (y2 = 63 → Good g d i7_readHole [LR 7 597] S0 h S0 (retI (fun r6 h4 =>
 (r6 = 0 ∨ r6 = 1) ∧ Q r6 h4)))))))) : L0 g d m7_readNode (retI Q) 77 [some (LR 7 597), some (LI x1), some (LI y2)] h :=
 LW.run 40 [(54, [true, true, true]), (77, [true, true, true]), (95, [true, true, true]), (115, [true, true, true]), (135, [true, false, false])] k7_readNode (And.intro (show (597 : Int) ≠ 0 by decide) (fun c1 => And.intro (fun c2 => ((v0 c1).1 c2)) (fun c2 => And.intro (fun c3 => (((v0 c1).2 c2).1 c3)) (fun c3 => And.intro (show (597 : Int) ≠ 0 by decide) (And.intro (Int.le_refl _) (Good.mI (((v0 c1).2 c2).2 c3) (fun r6 h4 v5 => And.intro v5.1 (And.intro rfl v5.2))))))))
set_option maxRecDepth 20000 in
theorem v7_readNode_95 {g : Gl} {d : Nat} {Q : Int → Hp → Prop} {x1 y2 : Int} {h : Hp} (v0 : (((h 597 3) = 0 ∨ (h 597 3) = 1) → (((h 597 3) = 0 → L0 g d m7_readNode (retI Q) 115 [some (LR 7 597), some (LI x1), some (LI y2)] h) ∧
 (¬ (h 597 3) = 0 → ((¬ y2 = 46 → L0 g d m7_readNode (retI Q) 115 [some (LR 7 597), some (LI x1), some (LI y2)] h) ∧
 (y2 = 46 → Good g d i7_readOver [LR 7 597, LI 3, LI x1] S0 h S0 (retI (fun r6 h4 =>
 (r6 = 0 ∨ r6 = 1) ∧ Q r6 h4)))))))) : L0 g d m7_readNode (retI Q) 95 [some (LR 7 597), some (LI x1), some (LI y2)] h :=
 LW.run 40 [(54, [true, true, true]), (77, [true, true, true]), (95, [true, true, true]), (115, [true, true, true]), (135, [true, false, false])] k7_readNode (And.intro (show (597 : Int) ≠ 0 by decide) (fun c1 => And.intro (fun c2 => ((v0 c1).1 c2)) (fun c2 => And.intro (fun c3 => (((v0 c1).2 c2).1 c3)) (fun c3 => And.intro (show (597 : Int) ≠ 0 by decide) (And.intro (Int.le_refl _) (Good.mI (((v0 c1).2 c2).2 c3) (fun r6 h4 v5 => And.intro v5.1 (And.intro rfl v5.2))))))))
set_option maxRecDepth 20000 in
theorem v7_readNode_115 {g : Gl} {d : Nat} {Q : Int → Hp → Prop} {x1 y2 : Int} {h : Hp} (v0 : (((h 597 3) = 0 ∨ (h 597 3) = 1) → (((h 597 3) = 0 → L0 g d m7_readNode (retI Q) 135 [some (LR 7 597), none, none] h) ∧
 (¬ (h 597 3) = 0 → ((¬ y2 = 33 → L0 g d m7_readNode (retI Q) 135 [some (LR 7 597), none, none] h) ∧
 (y2 = 33 → Good g d i7_readOver [LR 7 597, LI 4, LI x1] S0 h S0 (retI (fun r6 h4 =>
 (r6 = 0 ∨ r6 = 1) ∧ Q r6 h4)))))))) : L0 g d m7_readNode (retI Q) 115 [some (LR 7 597), some (LI x1), some (LI y2)] h :=
 LW.run 40 [(54, [true, true, true]), (77, [true, true, true]), (95, [true, true, true]), (115, [true, true, true]), (135, [true, false, false])] k7_readNode (And.intro (show (597 : Int) ≠ 0 by decide) (fun c1 => And.intro (fun c2 => ((v0 c1).1 c2)) (fun c2 => And.intro (fun c3 => (((v0 c1).2 c2).1 c3)) (fun c3 => And.intro (show (597 : Int) ≠ 0 by decide) (And.intro (Int.le_refl _) (Good.mI (((v0 c1).2 c2).2 c3) (fun r6 h4 v5 => And.intro v5.1 (And.intro rfl v5.2))))))))
set_option maxRecDepth 20000 in
theorem v7_readNode_135 {g : Gl} {d : Nat} {Q : Int → Hp → Prop} {h : Hp} (v0 : Good g d i7_fail [LR 7 597, LI 1, LI (h 597 5)] S0 h S0 (retI (fun r3 h1 =>
 (r3 = 0 ∨ r3 = 1) ∧ Q r3 h1))) : L0 g d m7_readNode (retI Q) 135 [some (LR 7 597), none, none] h :=
 LW.run 40 [(54, [true, true, true]), (77, [true, true, true]), (95, [true, true, true]), (115, [true, true, true]), (135, [true, false, false])] k7_readNode (And.intro (show (597 : Int) ≠ 0 by decide) (And.intro (show (597 : Int) ≠ 0 by decide) (And.intro (Int.le_refl _) (Good.mI v0 (fun r3 h1 v2 => And.intro v2.1 (And.intro rfl v2.2))))))
theorem g7_readNode {g : Gl} {d : Nat} {Q : LV → Hp → Prop} {x1 : Int} {h : Hp} (X : inI x1 → L0 g d m7_readNode Q 0 [some (LR 7 597), some (LI x1), none] h) : Good g (d + 1) i7_readNode [LR 7 597, LI x1] S0 h S0 Q := Good.body (M := m7_readNode) k7_readNode (Int.le_refl _) (Nat.le_of_ble_eq_true rfl) (fun hok => X (hok _ (List.mem_cons_of_mem _ List.mem_cons_self)))
set_option maxRecDepth 20000 in
theorem v7_addNode {g : Gl} {d : Nat} {Q : Int → Hp → Prop} {x1 x2 : Int} {h : Hp} (v0 : (((h 597 4) ≤ (h 24 9) → Good g d i7_fail [LR 7 597, LI 4, LI x2] S0 h S0 (retI (fun r4 h2 =>
 Q (-1) h2))) ∧
 (¬ (h 597 4) ≤ (h 24 9) → Good g d i5_add [LR 5 24, LI x1] S0 h S0 (retI (fun r7 h5 =>
 ((¬ r7 = (-1) → Q r7 h5) ∧
 (r7 = (-1) → Good g d i7_fail [LR 7 597, LI 4, LI x2] S0 h5 S0 (retI (fun r11 h9 =>
 Q r7 h9))))))))) : L0 g d m7_addNode (retI Q) 0 [some (LR 7 597), some (LI x1), some (LI x2), none] h :=
 LW.run 40 [] k7_addNode (And.intro (show (597 : Int) ≠ 0 by decide) (And.intro (show (24 : Int) ≠ 0 by decide) (And.intro (show (597 : Int) ≠ 0 by decide) (And.intro (fun c1 => And.intro (fun z => absurd (show (-1 : Int) = (-1) by decide) z) (fun _ => And.intro (show (597 : Int) ≠ 0 by decide) (And.intro (Int.le_refl _) (Good.mI (v0.1 c1) (fun r4 h2 v3 => And.intro rfl v3))))) (fun c1 => And.intro (show (597 : Int) ≠ 0 by decide) (And.intro (show (24 : Int) ≠ 0 by decide) (And.intro (Int.le_refl _) (Good.mI (v0.2 c1) (fun r7 h5 v6 => And.intro (fun c8 => And.intro rfl (v6.1 c8)) (fun c8 => And.intro (show (597 : Int) ≠ 0 by decide) (And.intro (Int.le_refl _) (Good.mI (v6.2 c8) (fun r11 h9 v10 => And.intro rfl v10)))))))))))))
theorem g7_addNode {g : Gl} {d : Nat} {Q : LV → Hp → Prop} {x1 x2 : Int} {h : Hp} (X : inI x1 → inI x2 → L0 g d m7_addNode Q 0 [some (LR 7 597), some (LI x1), some (LI x2), none] h) : Good g (d + 1) i7_addNode [LR 7 597, LI x1, LI x2] S0 h S0 Q := Good.body (M := m7_addNode) k7_addNode (Int.le_refl _) (Nat.le_of_ble_eq_true rfl) (fun hok => X (hok _ (List.mem_cons_of_mem _ List.mem_cons_self)) (hok _ (List.mem_cons_of_mem _ (List.mem_cons_of_mem _ List.mem_cons_self))))
set_option maxRecDepth 20000 in
theorem v7_readHead {g : Gl} {d : Nat} {Q : Int → Hp → Prop} {x1 x2 : Int} {h : Hp} (v0 : Good g d i2_hasHead [LR 2 5, LI x1] S0 h S0 (retI (fun r3 h1 =>
 ((¬ r3 = 0 → Good g d i7_addNode [LR 7 597, LI 0, LI (h1 597 5)] S0 h1 S0 (retI (fun r7 h5 =>
 ((¬ r7 = (-1) → 0 ≤ r7 ∧ r7 < 120 ∧ ∀ h9 : Hp, h9 = hup h5 26 r7 x1 →
 ∀ h10 : Hp, h10 = hup h9 597 5 (w32 ((h9 597 5) + 1)) →
 Good g d i7_skipBlanks [LR 7 597] S0 h10 S0 (retV (fun h11 =>
 Good g d i8_byteAt [LR 8 10, LI (h11 597 5)] S0 h11 S0 (retI (fun r15 h13 =>
 ((¬ r15 = 40 → 0 ≤ x1 ∧ x1 < 20 ∧ (((h13 8 x1) ≤ 0 → Q 1 h13) ∧
 (¬ (h13 8 x1) ≤ 0 → Good g d i7_fail [LR 7 597, LI 6, LI (h13 597 5)] S0 h13 S0 (retI (fun r20 h18 =>
 (r20 = 0 ∨ r20 = 1) ∧ Q r20 h18))))) ∧
 (r15 = 40 → 0 ≤ x1 ∧ x1 < 20 ∧ (((h13 8 x1) ≤ 0 → Good g d i7_fail [LR 7 597, LI 6, LI (h13 597 5)] S0 h13 S0 (retI (fun r24 h22 =>
 (r24 = 0 ∨ r24 = 1) ∧ Q r24 h22))) ∧
 (¬ (h13 8 x1) ≤ 0 → Good g d i7_readParts [LR 7 597, LI (h13 8 x1), LI x2] S0 h13 S0 (retI (fun r27 h25 =>
 ((r27 = 0 → Q 0 h25) ∧
 (¬ r27 = 0 → Q 1 h25))))))))))))) ∧
 (r7 = (-1) → Q 0 h5))))) ∧
 (r3 = 0 → Good g d i7_fail [LR 7 597, LI 2, LI (h1 597 5)] S0 h1 S0 (retI (fun r31 h29 =>
 (r31 = 0 ∨ r31 = 1) ∧ Q r31 h29))))))) : L0 g d m7_readHead (retI Q) 0 [some (LR 7 597), some (LI x1), some (LI x2), none, none] h :=
 LW.run 40 [] k7_readHead (And.intro (show (597 : Int) ≠ 0 by decide) (And.intro (show (5 : Int) ≠ 0 by decide) (And.intro (Int.le_refl _) (Good.mI v0 (fun r3 h1 v2 => And.intro (fun c4 => And.intro (show (597 : Int) ≠ 0 by decide) (And.intro (show (597 : Int) ≠ 0 by decide) (And.intro (Int.le_refl _) (Good.mI (v2.1 c4) (fun r7 h5 v6 => And.intro (fun c8 => And.intro (show (597 : Int) ≠ 0 by decide) (And.intro (show (24 : Int) ≠ 0 by decide) (And.intro (show 4 ≤ (26 : Int) by decide) (And.intro (v6.1 c8).1 (And.intro (v6.1 c8).2.1 (And.intro (show (597 : Int) ≠ 0 by decide) (And.intro (show (597 : Int) ≠ 0 by decide) (And.intro (show (597 : Int) ≠ 0 by decide) (And.intro (Int.le_refl _) (Good.mV (((v6.1 c8).2.2 _ rfl) _ rfl) (fun h11 v12 => And.intro (show (597 : Int) ≠ 0 by decide) (And.intro (show (597 : Int) ≠ 0 by decide) (And.intro (show (10 : Int) ≠ 0 by decide) (And.intro (Int.le_refl _) (Good.mI v12 (fun r15 h13 v14 => And.intro (fun c16 => And.intro (show (597 : Int) ≠ 0 by decide) (And.intro (show (5 : Int) ≠ 0 by decide) (And.intro (show (8 : Int) ≠ 0 by decide) (And.intro (v14.1 c16).1 (And.intro (v14.1 c16).2.1 (And.intro (fun c17 => And.intro (fun _ => And.intro (fun _ => And.intro (Or.inr rfl) (And.intro rfl ((v14.1 c16).2.2.1 c17))) (fun z => absurd (show (0 : Int) = 0 by decide) z)) (fun z => absurd (show (0 : Int) = 0 by decide) z)) (fun c17 => And.intro (fun z => absurd z (show ¬ (0 : Int) = 1 by decide)) (fun _ => And.intro (show (597 : Int) ≠ 0 by decide) (And.intro (show (597 : Int) ≠ 0 by decide) (And.intro (Int.le_refl _) (Good.mI ((v14.1 c16).2.2.2 c17) (fun r20 h18 v19 => And.intro v19.1 (And.intro rfl v19.2))))))))))))) (fun c16 => And.intro (show (597 : Int) ≠ 0 by decide) (And.intro (show (5 : Int) ≠ 0 by decide) (And.intro (show (8 : Int) ≠ 0 by decide) (And.intro (v14.2 c16).1 (And.intro (v14.2 c16).2.1 (And.intro (fun c21 => And.intro (fun z => absurd z (show ¬ (1 : Int) = 0 by decide)) (fun _ => And.intro (show (597 : Int) ≠ 0 by decide) (And.intro (show (597 : Int) ≠ 0 by decide) (And.intro (Int.le_refl _) (Good.mI ((v14.2 c16).2.2.1 c21) (fun r24 h22 v23 => And.intro v23.1 (And.intro rfl v23.2))))))) (fun c21 => And.intro (fun _ => And.intro (fun z => absurd z (show ¬ (1 : Int) = 0 by decide)) (fun _ => And.intro (show (597 : Int) ≠ 0 by decide) (And.intro (show (5 : Int) ≠ 0 by decide) (And.intro (show (8 : Int) ≠ 0 by decide) (And.intro (v14.2 c16).1 (And.intro (v14.2 c16).2.1 (And.intro (show (597 : Int) ≠ 0 by decide) (And.intro (Int.le_refl _) (Good.mI ((v14.2 c16).2.2.2 c21) (fun r27 h25 v26 => And.intro (fun c28 => And.intro (Or.inl rfl) (And.intro rfl (v26.1 c28))) (fun c28 => And.intro (Or.inr rfl) (And.intro rfl (v26.2 c28))))))))))))) (fun z => absurd (show (1 : Int) = 1 by decide) z)))))))))))))))))))))))) (fun c8 => And.intro (Or.inl rfl) (And.intro rfl (v6.2 c8)))))))) (fun c4 => And.intro (show (597 : Int) ≠ 0 by decide) (And.intro (show (597 : Int) ≠ 0 by decide) (And.intro (Int.le_refl _) (Good.mI (v2.2 c4) (fun r31 h29 v30 => And.intro v30.1 (And.intro rfl v30.2)))))))))))
theorem g7_readHead {g : Gl} {d : Nat} {Q : LV → Hp → Prop} {x1 x2 : Int} {h : Hp} (X : inI x1 → inI x2 → L0 g d m7_readHead Q 0 [some (LR 7 597), some (LI x1), some (LI x2), none, none] h) : Good g (d + 1) i7_readHead [LR 7 597, LI x1, LI x2] S0 h S0 Q := Good.body (M := m7_readHead) k7_readHead (Int.le_refl _) (Nat.le_of_ble_eq_true rfl) (fun hok => X (hok _ (List.mem_cons_of_mem _ List.mem_cons_self)) (hok _ (List.mem_cons_of_mem _ (List.mem_cons_of_mem _ List.mem_cons_self))))
set_option maxRecDepth 20000 in
theorem v7_readParts {g : Gl} {d : Nat} {Q : Int → Hp → Prop} {x1 x2 : Int} {h : Hp} (v0 : ((x2 < 12 → ∀ h2 : Hp, h2 = hup h 597 5 (w32 ((h 597 5) + 1)) →
 L0 g d m7_readParts (retI Q) 28 [some (LR 7 597), some (LI x1), some (LI x2), some (LI 1)] h2) ∧
 (¬ x2 < 12 → Good g d i7_fail [LR 7 597, LI 5, LI (h 597 5)] S0 h S0 (retI (fun r5 h3 =>
 (r5 = 0 ∨ r5 = 1) ∧ Q r5 h3))))) : L0 g d m7_readParts (retI Q) 0 [some (LR 7 597), some (LI x1), some (LI x2), none] h :=
 LW.run 40 [(28, [true, true, true, true])] k7_readParts (And.intro (fun c1 => And.intro (show (597 : Int) ≠ 0 by decide) (And.intro (show (597 : Int) ≠ 0 by decide) (((v0.1 c1) _ rfl)))) (fun c1 => And.intro (show (597 : Int) ≠ 0 by decide) (And.intro (show (597 : Int) ≠ 0 by decide) (And.intro (Int.le_refl _) (Good.mI (v0.2 c1) (fun r5 h3 v4 => And.intro v4.1 (And.intro rfl v4.2)))))))
set_option maxRecDepth 20000 in
theorem v7_readParts_28 {g : Gl} {d : Nat} {Q : Int → Hp → Prop} {x1 x2 y3 : Int} {h : Hp} (v0 : ((x1 < y3 → Q 1 h) ∧
 (¬ x1 < y3 → Good g d i7_readNode [LR 7 597, LI (w32 (x2 + 1))] S0 h S0 (retI (fun r4 h2 =>
 ((r4 = 0 → Q 0 h2) ∧
 (¬ r4 = 0 → ((¬ y3 = x1 → Good g d i7_readBehindPart [LR 7 597, LI 0] S0 h2 S0 (retI (fun r9 h7 =>
 ((¬ r9 = 0 → L0 g d m7_readParts (retI Q) 28 [some (LR 7 597), some (LI x1), some (LI x2), some (LI (w32 (y3 + 1)))] h7) ∧
 (r9 = 0 → Q 0 h7))))) ∧
 (y3 = x1 → Good g d i7_readBehindPart [LR 7 597, LI 1] S0 h2 S0 (retI (fun r13 h11 =>
 ((¬ r13 = 0 → L0 g d m7_readParts (retI Q) 28 [some (LR 7 597), some (LI x1), some (LI x2), some (LI (w32 (y3 + 1)))] h11) ∧
 (r13 = 0 → Q 0 h11))))))))))))) : L0 g d m7_readParts (retI Q) 28 [some (LR 7 597), some (LI x1), some (LI x2), some (LI y3)] h :=
 LW.run 40 [(28, [true, true, true, true])] k7_readParts (And.intro (fun c1 => And.intro (Or.inr rfl) (And.intro rfl (v0.1 c1))) (fun c1 => And.intro (show (597 : Int) ≠ 0 by decide) (And.intro (Int.le_refl _) (Good.mI (v0.2 c1) (fun r4 h2 v3 => And.intro (fun c5 => And.intro (Or.inl rfl) (And.intro rfl (v3.1 c5))) (fun c5 => And.intro (fun c6 => And.intro (show (597 : Int) ≠ 0 by decide) (And.intro (Int.le_refl _) (Good.mI ((v3.2 c5).1 c6) (fun r9 h7 v8 => And.intro (fun c10 => (v8.1 c10)) (fun c10 => And.intro (Or.inl rfl) (And.intro rfl (v8.2 c10))))))) (fun c6 => And.intro (show (597 : Int) ≠ 0 by decide) (And.intro (Int.le_refl _) (Good.mI ((v3.2 c5).2 c6) (fun r13 h11 v12 => And.intro (fun c14 => (v12.1 c14)) (fun c14 => And.intro (Or.inl rfl) (And.intro rfl (v12.2 c14)))))))))))))
theorem g7_readParts {g : Gl} {d : Nat} {Q : LV → Hp → Prop} {x1 x2 : Int} {h : Hp} (X : inI x1 → inI x2 → L0 g d m7_readParts Q 0 [some (LR 7 597), some (LI x1), some (LI x2), none] h) : Good g (d + 1) i7_readParts [LR 7 597, LI x1, LI x2] S0 h S0 Q := Good.body (M := m7_readParts) k7_readParts (Int.le_refl _) (Nat.le_of_ble_eq_true rfl) (fun hok => X (hok _ (List.mem_cons_of_mem _ List.mem_cons_self)) (hok _ (List.mem_cons_of_mem _ (List.mem_cons_of_mem _ List.mem_cons_self))))
set_option maxRecDepth 20000 in
theorem v7_readBehindPart {g : Gl} {d : Nat} {Q : Int → Hp → Prop} {x1 : Int} {h : Hp} (v0 : Good g d i7_skipBlanks [LR 7 597] S0 h S0 (retV (fun h1 =>
 ((x1 = 0 → Good g d i8_byteAt [LR 8 10, LI (h1 597 5)] S0 h1 S0 (retI (fun r6 h4 =>
 ((r6 = 44 → ∀ h8 : Hp, h8 = hup h4 597 5 (w32 ((h4 597 5) + 1)) →
 Q 1 h8) ∧
 (¬ r6 = 44 → ((¬ r6 = 41 → Good g d i7_fail [LR 7 597, LI 1, LI (h4 597 5)] S0 h4 S0 (retI (fun r12 h10 =>
 (r12 = 0 ∨ r12 = 1) ∧ Q r12 h10))) ∧
 (r6 = 41 → Good g d i7_fail [LR 7 597, LI 6, LI (h4 597 5)] S0 h4 S0 (retI (fun r15 h13 =>
 (r15 = 0 ∨ r15 = 1) ∧ Q r15 h13))))))))) ∧
 (¬ x1 = 0 → Good g d i8_byteAt [LR 8 10, LI (h1 597 5)] S0 h1 S0 (retI (fun r18 h16 =>
 ((r18 = 41 → ∀ h20 : Hp, h20 = hup h16 597 5 (w32 ((h16 597 5) + 1)) →
 Q 1 h20) ∧
 (¬ r18 = 41 → ((¬ r18 = 44 → Good g d i7_fail [LR 7 597, LI 1, LI (h16 597 5)] S0 h16 S0 (retI (fun r24 h22 =>
 (r24 = 0 ∨ r24 = 1) ∧ Q r24 h22))) ∧
 (r18 = 44 → Good g d i7_fail [LR 7 597, LI 6, LI (h16 597 5)] S0 h16 S0 (retI (fun r27 h25 =>
 (r27 = 0 ∨ r27 = 1) ∧ Q r27 h25))))))))))))) : L0 g d m7_readBehindPart (retI Q) 0 [some (LR 7 597), some (LI x1), none, none, none] h :=
 LW.run 40 [] k7_readBehindPart (And.intro (show (597 : Int) ≠ 0 by decide) (And.intro (Int.le_refl _) (Good.mV v0 (fun h1 v2 => And.intro (fun c3 => And.intro (fun _ => And.intro (show (597 : Int) ≠ 0 by decide) (And.intro (show (597 : Int) ≠ 0 by decide) (And.intro (show (10 : Int) ≠ 0 by decide) (And.intro (Int.le_refl _) (Good.mI (v2.1 c3) (fun r6 h4 v5 => And.intro (fun c7 => And.intro (show (597 : Int) ≠ 0 by decide) (And.intro (show (597 : Int) ≠ 0 by decide) (And.intro (Or.inr rfl) (And.intro rfl ((v5.1 c7) _ rfl))))) (fun c7 => And.intro (fun c9 => And.intro (show (597 : Int) ≠ 0 by decide) (And.intro (show (597 : Int) ≠ 0 by decide) (And.intro (Int.le_refl _) (Good.mI ((v5.2 c7).1 c9) (fun r12 h10 v11 => And.intro v11.1 (And.intro rfl v11.2)))))) (fun c9 => And.intro (show (597 : Int) ≠ 0 by decide) (And.intro (show (597 : Int) ≠ 0 by decide) (And.intro (Int.le_refl _) (Good.mI ((v5.2 c7).2 c9) (fun r15 h13 v14 => And.intro v14.1 (And.intro rfl v14.2))))))))))))) (fun z => absurd c3 z)) (fun c3 => And.intro (fun z => absurd z c3) (fun _ => And.intro (show (597 : Int) ≠ 0 by decide) (And.intro (show (597 : Int) ≠ 0 by decide) (And.intro (show (10 : Int) ≠ 0 by decide) (And.intro (Int.le_refl _) (Good.mI (v2.2 c3) (fun r18 h16 v17 => And.intro (fun c19 => And.intro (show (597 : Int) ≠ 0 by decide) (And.intro (show (597 : Int) ≠ 0 by decide) (And.intro (Or.inr rfl) (And.intro rfl ((v17.1 c19) _ rfl))))) (fun c19 => And.intro (fun c21 => And.intro (show (597 : Int) ≠ 0 by decide) (And.intro (show (597 : Int) ≠ 0 by decide) (And.intro (Int.le_refl _) (Good.mI ((v17.2 c19).1 c21) (fun r24 h22 v23 => And.intro v23.1 (And.intro rfl v23.2)))))) (fun c21 => And.intro (show (597 : Int) ≠ 0 by decide) (And.intro (show (597 : Int) ≠ 0 by decide) (And.intro (Int.le_refl _) (Good.mI ((v17.2 c19).2 c21) (fun r27 h25 v26 => And.intro v26.1 (And.intro rfl v26.2))))))))))))))))))
theorem g7_readBehindPart {g : Gl} {d : Nat} {Q : LV → Hp → Prop} {x1 : Int} {h : Hp} (X : inI x1 → L0 g d m7_readBehindPart Q 0 [some (LR 7 597), some (LI x1), none, none, none] h) : Good g (d + 1) i7_readBehindPart [LR 7 597, LI x1] S0 h S0 Q := Good.body (M := m7_readBehindPart) k7_readBehindPart (Int.le_refl _) (Nat.le_of_ble_eq_true rfl) (fun hok => X (hok _ (List.mem_cons_of_mem _ List.mem_cons_self)))
set_option maxRecDepth 20000 in
theorem v7_readOver {g : Gl} {d : Nat} {Q : Int → Hp → Prop} {x1 x2 : Int} {h : Hp} (v0 : Good g d i7_addNode [LR 7 597, LI x1, LI (h 597 5)] S0 h S0 (retI (fun r3 h1 =>
 ((¬ r3 = (-1) → ((x2 < 12 → ∀ h6 : Hp, h6 = hup h1 597 5 (w32 ((h1 597 5) + 1)) →
 ((¬ x1 = 3 → Good g d i7_readNode [LR 7 597, LI (w32 (x2 + 1))] S0 h6 S0 (retI (fun r10 h8 =>
 (r10 = 0 ∨ r10 = 1) ∧ Q r10 h8))) ∧
 (x1 = 3 → Good g d i8_byteAt [LR 8 10, LI (h6 597 5)] S0 h6 S0 (retI (fun r13 h11 =>
 ((r13 = 46 → ∀ h15 : Hp, h15 = hup h11 597 5 (w32 ((h11 597 5) + 1)) →
 Good g d i7_readNode [LR 7 597, LI (w32 (x2 + 1))] S0 h15 S0 (retI (fun r18 h16 =>
 (r18 = 0 ∨ r18 = 1) ∧ Q r18 h16))) ∧
 (¬ r13 = 46 → Good g d i7_fail [LR 7 597, LI 1, LI (h11 597 5)] S0 h11 S0 (retI (fun r21 h19 =>
 (r21 = 0 ∨ r21 = 1) ∧ Q r21 h19))))))))) ∧
 (¬ x2 < 12 → Good g d i7_fail [LR 7 597, LI 5, LI (h1 597 5)] S0 h1 S0 (retI (fun r24 h22 =>
 (r24 = 0 ∨ r24 = 1) ∧ Q r24 h22))))) ∧
 (r3 = (-1) → Q 0 h1))))) : L0 g d m7_readOver (retI Q) 0 [some (LR 7 597), some (LI x1), some (LI x2)] h :=
 LW.run 40 [] k7_readOver (And.intro (show (597 : Int) ≠ 0 by decide) (And.intro (show (597 : Int) ≠ 0 by decide) (And.intro (Int.le_refl _) (Good.mI v0 (fun r3 h1 v2 => And.intro (fun c4 => And.intro (fun c5 => And.intro (show (597 : Int) ≠ 0 by decide) (And.intro (show (597 : Int) ≠ 0 by decide) (And.intro (fun c7 => And.intro (show (597 : Int) ≠ 0 by decide) (And.intro (Int.le_refl _) (Good.mI ((((v2.1 c4).1 c5) _ rfl).1 c7) (fun r10 h8 v9 => And.intro v9.1 (And.intro rfl v9.2))))) (fun c7 => And.intro (show (597 : Int) ≠ 0 by decide) (And.intro (show (597 : Int) ≠ 0 by decide) (And.intro (show (10 : Int) ≠ 0 by decide) (And.intro (Int.le_refl _) (Good.mI ((((v2.1 c4).1 c5) _ rfl).2 c7) (fun r13 h11 v12 => And.intro (fun c14 => And.intro (show (597 : Int) ≠ 0 by decide) (And.intro (show (597 : Int) ≠ 0 by decide) (And.intro (show (597 : Int) ≠ 0 by decide) (And.intro (Int.le_refl _) (Good.mI ((v12.1 c14) _ rfl) (fun r18 h16 v17 => And.intro v17.1 (And.intro rfl v17.2))))))) (fun c14 => And.intro (show (597 : Int) ≠ 0 by decide) (And.intro (show (597 : Int) ≠ 0 by decide) (And.intro (Int.le_refl _) (Good.mI (v12.2 c14) (fun r21 h19 v20 => And.intro v20.1 (And.intro rfl v20.2))))))))))))))) (fun c5 => And.intro (show (597 : Int) ≠ 0 by decide) (And.intro (show (597 : Int) ≠ 0 by decide) (And.intro (Int.le_refl _) (Good.mI ((v2.1 c4).2 c5) (fun r24 h22 v23 => And.intro v23.1 (And.intro rfl v23.2))))))) (fun c4 => And.intro (Or.inl rfl) (And.intro rfl (v2.2 c4))))))))
theorem g7_readOver {g : Gl} {d : Nat} {Q : LV → Hp → Prop} {x1 x2 : Int} {h : Hp} (X : inI x1 → inI x2 → L0 g d m7_readOver Q 0 [some (LR 7 597), some (LI x1), some (LI x2)] h) : Good g (d + 1) i7_readOver [LR 7 597, LI x1, LI x2] S0 h S0 Q := Good.body (M := m7_readOver) k7_readOver (Int.le_refl _) (Nat.le_of_ble_eq_true rfl) (fun hok => X (hok _ (List.mem_cons_of_mem _ List.mem_cons_self)) (hok _ (List.mem_cons_of_mem _ (List.mem_cons_of_mem _ List.mem_cons_self))))
set_option maxRecDepth 20000 in
theorem v7_readNumberNode {g : Gl} {d : Nat} {Q : Int → Hp → Prop} {h : Hp} (v0 : Good g d i7_readNumber [LR 7 597] S0 h S0 (retI (fun r3 h1 =>
 ((¬ (h1 597 7) = 3 → Good g d i7_addNode [LR 7 597, LI 1, LI (h 597 5)] S0 h1 S0 (retI (fun r7 h5 =>
 ((r7 = (-1) → Q 0 h5) ∧
 (¬ r7 = (-1) → ((¬ r3 = 0 → 0 ≤ r7 ∧ r7 < 120 ∧ ∀ h10 : Hp, h10 = hup h5 30 r7 (h5 597 6) →
 Q 1 h10) ∧
 (r3 = 0 → Q 0 h5))))))) ∧
 ((h1 597 7) = 3 → Q 0 h1))))) : L0 g d m7_readNumberNode (retI Q) 0 [some (LR 7 597), none, none, none] h :=
 LW.run 40 [] k7_readNumberNode (And.intro (show (597 : Int) ≠ 0 by decide) (And.intro (show (597 : Int) ≠ 0 by decide) (And.intro (Int.le_refl _) (Good.mI v0 (fun r3 h1 v2 => And.intro (show (597 : Int) ≠ 0 by decide) (And.intro (fun c4 => And.intro (show (597 : Int) ≠ 0 by decide) (And.intro (Int.le_refl _) (Good.mI (v2.1 c4) (fun r7 h5 v6 => And.intro (fun c8 => And.intro (Or.inl rfl) (And.intro rfl (v6.1 c8))) (fun c8 => And.intro (fun c9 => And.intro (show (597 : Int) ≠ 0 by decide) (And.intro (show (24 : Int) ≠ 0 by decide) (And.intro (show (597 : Int) ≠ 0 by decide) (And.intro (show (30 : Int) ≠ 0 by decide) (And.intro ((v6.2 c8).1 c9).1 (And.intro ((v6.2 c8).1 c9).2.1 (And.intro (Or.inr rfl) (And.intro rfl (((v6.2 c8).1 c9).2.2 _ rfl))))))))) (fun c9 => And.intro (Or.inl rfl) (And.intro rfl ((v6.2 c8).2 c9)))))))) (fun c4 => And.intro (Or.inl rfl) (And.intro rfl (v2.2 c4)))))))))
theorem g7_readNumberNode {g : Gl} {d : Nat} {Q : LV → Hp → Prop} {h : Hp} (X : L0 g d m7_readNumberNode Q 0 [some (LR 7 597), none, none, none] h) : Good g (d + 1) i7_readNumberNode [LR 7 597] S0 h S0 Q := Good.body (M := m7_readNumberNode) k7_readNumberNode (Int.le_refl _) (Nat.le_of_ble_eq_true rfl) (fun hok => X )
set_option maxRecDepth 20000 in
theorem v7_readNumber {g : Gl} {d : Nat} {Q : Int → Hp → Prop} {h : Hp} (v0 : Good g d i8_byteAt [LR 8 10, LI (h 597 5)] S0 h S0 (retI (fun r3 h1 =>
 ((¬ r3 = 45 → Good g d i7_endOfDigits [LR 7 597, LI (h1 597 5)] S0 h1 S0 (retI (fun r7 h5 =>
 (((w32 (r7 - (h1 597 5))) ≤ 18 → ((¬ r7 = (h1 597 5) → Good g d i7_takeDigits [LR 7 597, LI (h1 597 5), LI r7] S0 h5 S0 (retV (fun h10 =>
 ∀ h12 : Hp, h12 = hup h10 597 6 (h10 597 6) →
 Q 1 h12))) ∧
 (r7 = (h1 597 5) → Good g d i7_fail [LR 7 597, LI 1, LI (h1 597 5)] S0 h5 S0 (retI (fun r15 h13 =>
 (r15 = 0 ∨ r15 = 1) ∧ Q r15 h13))))) ∧
 (¬ (w32 (r7 - (h1 597 5))) ≤ 18 → Good g d i7_fail [LR 7 597, LI 3, LI (h5 597 5)] S0 h5 S0 (retI (fun r18 h16 =>
 (r18 = 0 ∨ r18 = 1) ∧ Q r18 h16))))))) ∧
 (r3 = 45 → Good g d i7_endOfDigits [LR 7 597, LI (w32 ((h1 597 5) + 1))] S0 h1 S0 (retI (fun r21 h19 =>
 (((w32 (r21 - (w32 ((h1 597 5) + 1)))) ≤ 18 → ((¬ r21 = (w32 ((h1 597 5) + 1)) → Good g d i7_takeDigits [LR 7 597, LI (w32 ((h1 597 5) + 1)), LI r21] S0 h19 S0 (retV (fun h24 =>
 ∀ h26 : Hp, h26 = hup h24 597 6 (w64 (-(h24 597 6))) →
 Q 1 h26))) ∧
 (r21 = (w32 ((h1 597 5) + 1)) → Good g d i7_fail [LR 7 597, LI 1, LI (w32 ((h1 597 5) + 1))] S0 h19 S0 (retI (fun r29 h27 =>
 (r29 = 0 ∨ r29 = 1) ∧ Q r29 h27))))) ∧
 (¬ (w32 (r21 - (w32 ((h1 597 5) + 1)))) ≤ 18 → Good g d i7_fail [LR 7 597, LI 3, LI (h19 597 5)] S0 h19 S0 (retI (fun r32 h30 =>
 (r32 = 0 ∨ r32 = 1) ∧ Q r32 h30))))))))))) : L0 g d m7_readNumber (retI Q) 0 [some (LR 7 597), none, none, none] h :=
 LW.run 40 [] k7_readNumber (And.intro (show (597 : Int) ≠ 0 by decide) (And.intro (show (597 : Int) ≠ 0 by decide) (And.intro (show (10 : Int) ≠ 0 by decide) (And.intro (Int.le_refl _) (Good.mI v0 (fun r3 h1 v2 => And.intro (fun c4 => And.intro (fun _ => And.intro (show (597 : Int) ≠ 0 by decide) (And.intro (show (597 : Int) ≠ 0 by decide) (And.intro (Int.le_refl _) (Good.mI (v2.1 c4) (fun r7 h5 v6 => And.intro (fun c8 => And.intro (fun c9 => And.intro (show (597 : Int) ≠ 0 by decide) (And.intro (Int.le_refl _) (Good.mV ((v6.1 c8).1 c9) (fun h10 v11 => And.intro (fun _ => And.intro (show (597 : Int) ≠ 0 by decide) (And.intro (show (597 : Int) ≠ 0 by decide) (And.intro (Or.inr rfl) (And.intro rfl (v11 _ rfl))))) (fun z => absurd (show (0 : Int) = 0 by decide) z))))) (fun c9 => And.intro (show (597 : Int) ≠ 0 by decide) (And.intro (Int.le_refl _) (Good.mI ((v6.1 c8).2 c9) (fun r15 h13 v14 => And.intro v14.1 (And.intro rfl v14.2)))))) (fun c8 => And.intro (show (597 : Int) ≠ 0 by decide) (And.intro (show (597 : Int) ≠ 0 by decide) (And.intro (Int.le_refl _) (Good.mI (v6.2 c8) (fun r18 h16 v17 => And.intro v17.1 (And.intro rfl v17.2))))))))))) (fun z => absurd (show (0 : Int) = 0 by decide) z)) (fun c4 => And.intro (fun z => absurd z (show ¬ (1 : Int) = 0 by decide)) (fun _ => And.intro (show (597 : Int) ≠ 0 by decide) (And.intro (show (597 : Int) ≠ 0 by decide) (And.intro (Int.le_refl _) (Good.mI (v2.2 c4) (fun r21 h19 v20 => And.intro (fun c22 => And.intro (fun c23 => And.intro (show (597 : Int) ≠ 0 by decide) (And.intro (Int.le_refl _) (Good.mV ((v20.1 c22).1 c23) (fun h24 v25 => And.intro (fun z => absurd z (show ¬ (1 : Int) = 0 by decide)) (fun _ => And.intro (show (597 : Int) ≠ 0 by decide) (And.intro (show (597 : Int) ≠ 0 by decide) (And.intro (Or.inr rfl) (And.intro rfl (v25 _ rfl))))))))) (fun c23 => And.intro (show (597 : Int) ≠ 0 by decide) (And.intro (Int.le_refl _) (Good.mI ((v20.1 c22).2 c23) (fun r29 h27 v28 => And.intro v28.1 (And.intro rfl v28.2)))))) (fun c22 => And.intro (show (597 : Int) ≠ 0 by decide) (And.intro (show (597 : Int) ≠ 0 by decide) (And.intro (Int.le_refl _) (Good.mI (v20.2 c22) (fun r32 h30 v31 => And.intro v31.1 (And.intro rfl v31.2))))))))))))))))))
theorem g7_readNumber {g : Gl} {d : Nat} {Q : LV → Hp → Prop} {h : Hp} (X : L0 g d m7_readNumber Q 0 [some (LR 7 597), none, none, none] h) : Good g (d + 1) i7_readNumber [LR 7 597] S0 h S0 Q := Good.body (M := m7_readNumber) k7_readNumber (Int.le_refl _) (Nat.le_of_ble_eq_true rfl) (fun hok => X )
set_option maxRecDepth 20000 in
theorem v7_readHole {g : Gl} {d : Nat} {Q : Int → Hp → Prop} {h : Hp} (v0 : Good g d i7_addNode [LR 7 597, LI 2, LI (h 597 5)] S0 h S0 (retI (fun r3 h1 =>
 ((¬ r3 = (-1) → ∀ h5 : Hp, h5 = hup h1 597 5 (w32 ((h1 597 5) + 1)) →
 Good g d i8_byteAt [LR 8 10, LI (h5 597 5)] S0 h5 S0 (retI (fun r8 h6 =>
 ((r8 < 48 → L0 g d m7_readHole (retI Q) 74 [some (LR 7 597), some (LI r3), none] h6) ∧
 (¬ r8 < 48 → ((57 < r8 → L0 g d m7_readHole (retI Q) 74 [some (LR 7 597), some (LI r3), none] h6) ∧
 (¬ 57 < r8 → 0 ≤ r3 ∧ r3 < 120 ∧ ∀ h11 : Hp, h11 = hup h6 28 r3 (w32 (r8 - 48)) →
 ∀ h12 : Hp, h12 = hup h11 597 5 (w32 ((h11 597 5) + 1)) →
 L0 g d m7_readHole (retI Q) 74 [some (LR 7 597), some (LI r3), none] h12))))))) ∧
 (r3 = (-1) → Q 0 h1))))) : L0 g d m7_readHole (retI Q) 0 [some (LR 7 597), none, none] h :=
 LW.run 40 [(74, [true, true, false]), (104, [true, true, false])] k7_readHole (And.intro (show (597 : Int) ≠ 0 by decide) (And.intro (show (597 : Int) ≠ 0 by decide) (And.intro (Int.le_refl _) (Good.mI v0 (fun r3 h1 v2 => And.intro (fun c4 => And.intro (show (597 : Int) ≠ 0 by decide) (And.intro (show (597 : Int) ≠ 0 by decide) (And.intro (show (597 : Int) ≠ 0 by decide) (And.intro (show (597 : Int) ≠ 0 by decide) (And.intro (show (10 : Int) ≠ 0 by decide) (And.intro (Int.le_refl _) (Good.mI ((v2.1 c4) _ rfl) (fun r8 h6 v7 => And.intro (fun c9 => (v7.1 c9)) (fun c9 => And.intro (fun c10 => ((v7.2 c9).1 c10)) (fun c10 => And.intro (show (597 : Int) ≠ 0 by decide) (And.intro (show (24 : Int) ≠ 0 by decide) (And.intro (show 4 ≤ (28 : Int) by decide) (And.intro ((v7.2 c9).2 c10).1 (And.intro ((v7.2 c9).2 c10).2.1 (And.intro (show (597 : Int) ≠ 0 by decide) (And.intro (show (597 : Int) ≠ 0 by decide) (((((v7.2 c9).2 c10).2.2 _ rfl) _ rfl)))))))))))))))))) (fun c4 => And.intro (Or.inl rfl) (And.intro rfl (v2.2 c4))))))))
set_option maxRecDepth 20000 in
theorem v7_readHole_74 {g : Gl} {d : Nat} {Q : Int → Hp → Prop} {y1 : Int} {h : Hp} (v0 : Good g d i7_skipBlanks [LR 7 597] S0 h S0 (retV (fun h1 =>
 Good g d i8_byteAt [LR 8 10, LI (h1 597 5)] S0 h1 S0 (retI (fun r5 h3 =>
 ((¬ r5 = 58 → L0 g d m7_readHole (retI Q) 104 [some (LR 7 597), some (LI y1), none] h3) ∧
 (r5 = 58 → Good g d i7_readKind [LR 7 597, LI y1] S0 h3 S0 (retI (fun r9 h7 =>
 ((¬ r9 = 0 → L0 g d m7_readHole (retI Q) 104 [some (LR 7 597), some (LI y1), none] h7) ∧
 (r9 = 0 → Q 0 h7))))))))))) : L0 g d m7_readHole (retI Q) 74 [some (LR 7 597), some (LI y1), none] h :=
 LW.run 40 [(74, [true, true, false]), (104, [true, true, false])] k7_readHole (And.intro (show (597 : Int) ≠ 0 by decide) (And.intro (Int.le_refl _) (Good.mV v0 (fun h1 v2 => And.intro (show (597 : Int) ≠ 0 by decide) (And.intro (show (597 : Int) ≠ 0 by decide) (And.intro (show (10 : Int) ≠ 0 by decide) (And.intro (Int.le_refl _) (Good.mI v2 (fun r5 h3 v4 => And.intro (fun c6 => (v4.1 c6)) (fun c6 => And.intro (show (597 : Int) ≠ 0 by decide) (And.intro (Int.le_refl _) (Good.mI (v4.2 c6) (fun r9 h7 v8 => And.intro (fun c10 => (v8.1 c10)) (fun c10 => And.intro (Or.inl rfl) (And.intro rfl (v8.2 c10))))))))))))))))
set_option maxRecDepth 20000 in
theorem v7_readHole_104 {g : Gl} {d : Nat} {Q : Int → Hp → Prop} {y1 : Int} {h : Hp} (v0 : Good g d i7_skipBlanks [LR 7 597] S0 h S0 (retV (fun h1 =>
 Good g d i8_byteAt [LR 8 10, LI (h1 597 5)] S0 h1 S0 (retI (fun r5 h3 =>
 ((¬ r5 = 91 → Q 1 h3) ∧
 (r5 = 91 → Good g d i7_readSpan [LR 7 597, LI y1] S0 h3 S0 (retI (fun r9 h7 =>
 ((r9 = 0 → Q 0 h7) ∧
 (¬ r9 = 0 → Q 1 h7))))))))))) : L0 g d m7_readHole (retI Q) 104 [some (LR 7 597), some (LI y1), none] h :=
 LW.run 40 [(74, [true, true, false]), (104, [true, true, false])] k7_readHole (And.intro (show (597 : Int) ≠ 0 by decide) (And.intro (Int.le_refl _) (Good.mV v0 (fun h1 v2 => And.intro (show (597 : Int) ≠ 0 by decide) (And.intro (show (597 : Int) ≠ 0 by decide) (And.intro (show (10 : Int) ≠ 0 by decide) (And.intro (Int.le_refl _) (Good.mI v2 (fun r5 h3 v4 => And.intro (fun c6 => And.intro (Or.inr rfl) (And.intro rfl (v4.1 c6))) (fun c6 => And.intro (show (597 : Int) ≠ 0 by decide) (And.intro (Int.le_refl _) (Good.mI (v4.2 c6) (fun r9 h7 v8 => And.intro (fun c10 => And.intro (Or.inl rfl) (And.intro rfl (v8.1 c10))) (fun c10 => And.intro (Or.inr rfl) (And.intro rfl (v8.2 c10))))))))))))))))
theorem g7_readHole {g : Gl} {d : Nat} {Q : LV → Hp → Prop} {h : Hp} (X : L0 g d m7_readHole Q 0 [some (LR 7 597), none, none] h) : Good g (d + 1) i7_readHole [LR 7 597] S0 h S0 Q := Good.body (M := m7_readHole) k7_readHole (Int.le_refl _) (Nat.le_of_ble_eq_true rfl) (fun hok => X )
set_option maxRecDepth 20000 in
theorem v7_readKind {g : Gl} {d : Nat} {Q : Int → Hp → Prop} {x1 : Int} {h : Hp} (v0 : ∀ h1 : Hp, h1 = hup h 597 5 (w32 ((h 597 5) + 1)) →
 Good g d i7_skipBlanks [LR 7 597] S0 h1 S0 (retV (fun h2 =>
 Good g d i7_endOfDigits [LR 7 597, LI (h2 597 5)] S0 h2 S0 (retI (fun r6 h4 =>
 ((¬ r6 = (h2 597 5) → (((w32 (r6 - (h2 597 5))) ≤ 18 → Good g d i7_takeDigits [LR 7 597, LI (h2 597 5), LI r6] S0 h4 S0 (retV (fun h9 =>
 Good g d i2_hasKind [LR 2 5, LL (h9 597 6)] S0 h9 S0 (retI (fun r13 h11 =>
 ((¬ r13 = 0 → 0 ≤ x1 ∧ x1 < 120 ∧ ∀ h15 : Hp, h15 = hup h11 27 x1 (w32 (h11 597 6)) →
 Q 1 h15) ∧
 (r13 = 0 → Good g d i7_fail [LR 7 597, LI 3, LI (h2 597 5)] S0 h11 S0 (retI (fun r18 h16 =>
 (r18 = 0 ∨ r18 = 1) ∧ Q r18 h16))))))))) ∧
 (¬ (w32 (r6 - (h2 597 5))) ≤ 18 → Good g d i7_fail [LR 7 597, LI 3, LI (h2 597 5)] S0 h4 S0 (retI (fun r21 h19 =>
 (r21 = 0 ∨ r21 = 1) ∧ Q r21 h19))))) ∧
 (r6 = (h2 597 5) → Good g d i7_fail [LR 7 597, LI 1, LI (h2 597 5)] S0 h4 S0 (retI (fun r24 h22 =>
 (r24 = 0 ∨ r24 = 1) ∧ Q r24 h22))))))))) : L0 g d m7_readKind (retI Q) 0 [some (LR 7 597), some (LI x1), none, none] h :=
 LW.run 40 [] k7_readKind (And.intro (show (597 : Int) ≠ 0 by decide) (And.intro (show (597 : Int) ≠ 0 by decide) (And.intro (show (597 : Int) ≠ 0 by decide) (And.intro (Int.le_refl _) (Good.mV (v0 _ rfl) (fun h2 v3 => And.intro (show (597 : Int) ≠ 0 by decide) (And.intro (show (597 : Int) ≠ 0 by decide) (And.intro (Int.le_refl _) (Good.mI v3 (fun r6 h4 v5 => And.intro (fun c7 => And.intro (fun c8 => And.intro (show (597 : Int) ≠ 0 by decide) (And.intro (Int.le_refl _) (Good.mV ((v5.1 c7).1 c8) (fun h9 v10 => And.intro (show (597 : Int) ≠ 0 by decide) (And.intro (show (597 : Int) ≠ 0 by decide) (And.intro (show (5 : Int) ≠ 0 by decide) (And.intro (Int.le_refl _) (Good.mI v10 (fun r13 h11 v12 => And.intro (fun c14 => And.intro (show (597 : Int) ≠ 0 by decide) (And.intro (show (24 : Int) ≠ 0 by decide) (And.intro (show (597 : Int) ≠ 0 by decide) (And.intro (show 4 ≤ (27 : Int) by decide) (And.intro (v12.1 c14).1 (And.intro (v12.1 c14).2.1 (And.intro (Or.inr rfl) (And.intro rfl ((v12.1 c14).2.2 _ rfl))))))))) (fun c14 => And.intro (show (597 : Int) ≠ 0 by decide) (And.intro (Int.le_refl _) (Good.mI (v12.2 c14) (fun r18 h16 v17 => And.intro v17.1 (And.intro rfl v17.2)))))))))))))) (fun c8 => And.intro (show (597 : Int) ≠ 0 by decide) (And.intro (Int.le_refl _) (Good.mI ((v5.1 c7).2 c8) (fun r21 h19 v20 => And.intro v20.1 (And.intro rfl v20.2)))))) (fun c7 => And.intro (show (597 : Int) ≠ 0 by decide) (And.intro (Int.le_refl _) (Good.mI (v5.2 c7) (fun r24 h22 v23 => And.intro v23.1 (And.intro rfl v23.2)))))))))))))))
theorem g7_readKind {g : Gl} {d : Nat} {Q : LV → Hp → Prop} {x1 : Int} {h : Hp} (X : inI x1 → L0 g d m7_readKind Q 0 [some (LR 7 597), some (LI x1), none, none] h) : Good g (d + 1) i7_readKind [LR 7 597, LI x1] S0 h S0 Q := Good.body (M := m7_readKind) k7_readKind (Int.le_refl _) (Nat.le_of_ble_eq_true rfl) (fun hok => X (hok _ (List.mem_cons_of_mem _ List.mem_cons_self)))
set_option maxRecDepth 20000 in
theorem v7_readSpan {g : Gl} {d : Nat} {Q : Int → Hp → Prop} {x1 : Int} {h : Hp} (v0 : 0 ≤ x1 ∧ x1 < 120 ∧ ∀ h1 : Hp, h1 = hup h 29 x1 1 →
 Good g d i7_passSign [LR 7 597, LI 91] S0 h1 S0 (retI (fun r4 h2 =>
 ((r4 = 0 → Q 0 h2) ∧
 (¬ r4 = 0 → Good g d i7_readNumber [LR 7 597] S0 h2 S0 (retI (fun r8 h6 =>
 ((¬ r8 = 0 → ∀ h10 : Hp, h10 = hup h6 30 x1 (h6 597 6) →
 Good g d i7_passSign [LR 7 597, LI 126] S0 h10 S0 (retI (fun r13 h11 =>
 ((r13 = 0 → Q 0 h11) ∧
 (¬ r13 = 0 → Good g d i7_readNumber [LR 7 597] S0 h11 S0 (retI (fun r17 h15 =>
 ((¬ r17 = 0 → ∀ h19 : Hp, h19 = hup h15 31 x1 (h15 597 6) →
 Good g d i7_passSign [LR 7 597, LI 93] S0 h19 S0 (retI (fun r22 h20 =>
 (r22 = 0 ∨ r22 = 1) ∧ Q r22 h20))) ∧
 (r17 = 0 → Q 0 h15))))))))) ∧
 (r8 = 0 → Q 0 h6))))))))) : L0 g d m7_readSpan (retI Q) 0 [some (LR 7 597), some (LI x1)] h :=
 LW.run 40 [] k7_readSpan (And.intro (show (597 : Int) ≠ 0 by decide) (And.intro (show (24 : Int) ≠ 0 by decide) (And.intro (show (29 : Int) ≠ 0 by decide) (And.intro v0.1 (And.intro v0.2.1 (And.intro (Or.inr rfl) (And.intro (show (597 : Int) ≠ 0 by decide) (And.intro (Int.le_refl _) (Good.mI (v0.2.2 _ rfl) (fun r4 h2 v3 => And.intro (fun c5 => And.intro (Or.inl rfl) (And.intro rfl (v3.1 c5))) (fun c5 => And.intro (show (597 : Int) ≠ 0 by decide) (And.intro (Int.le_refl _) (Good.mI (v3.2 c5) (fun r8 h6 v7 => And.intro (fun c9 => And.intro (show (597 : Int) ≠ 0 by decide) (And.intro (show (24 : Int) ≠ 0 by decide) (And.intro (show (597 : Int) ≠ 0 by decide) (And.intro (show (30 : Int) ≠ 0 by decide) (And.intro v0.1 (And.intro v0.2.1 (And.intro (show (597 : Int) ≠ 0 by decide) (And.intro (Int.le_refl _) (Good.mI ((v7.1 c9) _ rfl) (fun r13 h11 v12 => And.intro (fun c14 => And.intro (Or.inl rfl) (And.intro rfl (v12.1 c14))) (fun c14 => And.intro (show (597 : Int) ≠ 0 by decide) (And.intro (Int.le_refl _) (Good.mI (v12.2 c14) (fun r17 h15 v16 => And.intro (fun c18 => And.intro (show (597 : Int) ≠ 0 by decide) (And.intro (show (24 : Int) ≠ 0 by decide) (And.intro (show (597 : Int) ≠ 0 by decide) (And.intro (show (31 : Int) ≠ 0 by decide) (And.intro v0.1 (And.intro v0.2.1 (And.intro (show (597 : Int) ≠ 0 by decide) (And.intro (Int.le_refl _) (Good.mI ((v16.1 c18) _ rfl) (fun r22 h20 v21 => And.intro v21.1 (And.intro rfl v21.2))))))))))) (fun c18 => And.intro (Or.inl rfl) (And.intro rfl (v16.2 c18))))))))))))))))) (fun c9 => And.intro (Or.inl rfl) (And.intro rfl (v7.2 c9)))))))))))))))))
theorem g7_readSpan {g : Gl} {d : Nat} {Q : LV → Hp → Prop} {x1 : Int} {h : Hp} (X : inI x1 → L0 g d m7_readSpan Q 0 [some (LR 7 597), some (LI x1)] h) : Good g (d + 1) i7_readSpan [LR 7 597, LI x1] S0 h S0 Q := Good.body (M := m7_readSpan) k7_readSpan (Int.le_refl _) (Nat.le_of_ble_eq_true rfl) (fun hok => X (hok _ (List.mem_cons_of_mem _ List.mem_cons_self)))
set_option maxRecDepth 20000 in
theorem v7_passSign {g : Gl} {d : Nat} {Q : Int → Hp → Prop} {x1 : Int} {h : Hp} (v0 : Good g d i7_skipBlanks [LR 7 597] S0 h S0 (retV (fun h1 =>
 Good g d i8_byteAt [LR 8 10, LI (h1 597 5)] S0 h1 S0 (retI (fun r5 h3 =>
 ((r5 = x1 → ∀ h7 : Hp, h7 = hup h3 597 5 (w32 ((h3 597 5) + 1)) →
 Good g d i7_skipBlanks [LR 7 597] S0 h7 S0 (retV (fun h8 =>
 Q 1 h8))) ∧
 (¬ r5 = x1 → Good g d i7_fail [LR 7 597, LI 1, LI (h3 597 5)] S0 h3 S0 (retI (fun r12 h10 =>
 (r12 = 0 ∨ r12 = 1) ∧ Q r12 h10))))))))) : L0 g d m7_passSign (retI Q) 0 [some (LR 7 597), some (LI x1)] h :=
 LW.run 40 [] k7_passSign (And.intro (show (597 : Int) ≠ 0 by decide) (And.intro (Int.le_refl _) (Good.mV v0 (fun h1 v2 => And.intro (show (597 : Int) ≠ 0 by decide) (And.intro (show (597 : Int) ≠ 0 by decide) (And.intro (show (10 : Int) ≠ 0 by decide) (And.intro (Int.le_refl _) (Good.mI v2 (fun r5 h3 v4 => And.intro (fun c6 => And.intro (show (597 : Int) ≠ 0 by decide) (And.intro (show (597 : Int) ≠ 0 by decide) (And.intro (show (597 : Int) ≠ 0 by decide) (And.intro (Int.le_refl _) (Good.mV ((v4.1 c6) _ rfl) (fun h8 v9 => And.intro (Or.inr rfl) (And.intro rfl v9))))))) (fun c6 => And.intro (show (597 : Int) ≠ 0 by decide) (And.intro (show (597 : Int) ≠ 0 by decide) (And.intro (Int.le_refl _) (Good.mI (v4.2 c6) (fun r12 h10 v11 => And.intro v11.1 (And.intro rfl v11.2)))))))))))))))
theorem g7_passSign {g : Gl} {d : Nat} {Q : LV → Hp → Prop} {x1 : Int} {h : Hp} (X : inI x1 → L0 g d m7_passSign Q 0 [some (LR 7 597), some (LI x1)] h) : Good g (d + 1) i7_passSign [LR 7 597, LI x1] S0 h S0 Q := Good.body (M := m7_passSign) k7_passSign (Int.le_refl _) (Nat.le_of_ble_eq_true rfl) (fun hok => X (hok _ (List.mem_cons_of_mem _ List.mem_cons_self)))
