/-! what the stretches of methods come to (written by program, wip/whole/gen_vc.py) -/

set_option maxRecDepth 20000 in
theorem v9_kind {g : Gl} {d : Nat} {Q : Int → Hp → Prop} {x1 : Int} {h : Hp} (v0 : Good g d i2_hasKind [LR 2 5, LL x1] S0 h S0 (retI (fun r3 h1 =>
 ((¬ r3 = 0 → Good g d i2_addKind [LR 2 5, LI x1] S0 h1 S0 (retI (fun r7 h5 =>
 Q r7 h5))) ∧
 (r3 = 0 → Q (-1001) h1))))) : L0 g d m9_kind (retI Q) 0 [some (LR 9 4), some (LI x1)] h :=
 LW.run 40 [] k9_kind (And.intro (show (4 : Int) ≠ 0 by decide) (And.intro (show (5 : Int) ≠ 0 by decide) (And.intro (Int.le_refl _) (Good.mI v0 (fun r3 h1 v2 => And.intro (fun c4 => And.intro (show (4 : Int) ≠ 0 by decide) (And.intro (show (5 : Int) ≠ 0 by decide) (And.intro (Int.le_refl _) (Good.mI (v2.1 c4) (fun r7 h5 v6 => And.intro rfl v6))))) (fun c4 => And.intro rfl (v2.2 c4)))))))
theorem g9_kind {g : Gl} {d : Nat} {Q : LV → Hp → Prop} {x1 : Int} {h : Hp} (X : inI x1 → L0 g d m9_kind Q 0 [some (LR 9 4), some (LI x1)] h) : Good g (d + 1) i9_kind [LR 9 4, LI x1] S0 h S0 Q := Good.body (M := m9_kind) k9_kind (Int.le_refl _) (Nat.le_of_ble_eq_true rfl) (fun hok => X (hok _ (List.mem_cons_of_mem _ List.mem_cons_self)))
set_option maxRecDepth 20000 in
theorem v9_isUnder {g : Gl} {d : Nat} {Q : Int → Hp → Prop} {x1 x2 : Int} {h : Hp} (v0 : Good g d i2_hasKind [LR 2 5, LL x1] S0 h S0 (retI (fun r3 h1 =>
 ((r3 = 0 → Q (-1001) h1) ∧
 (¬ r3 = 0 → Good g d i2_hasKind [LR 2 5, LL x2] S0 h1 S0 (retI (fun r7 h5 =>
 ((¬ r7 = 0 → Good g d i2_isBelow [LR 2 5, LI x1, LI x2] S0 h5 S0 (retI (fun r11 h9 =>
 Good g d i9_asInt [LI r11] S0 h9 S0 (retI (fun r14 h12 =>
 Q r14 h12))))) ∧
 (r7 = 0 → Q (-1001) h5))))))))) : L0 g d m9_isUnder (retI Q) 0 [some (LR 9 4), some (LI x1), some (LI x2)] h :=
 LW.run 40 [] k9_isUnder (And.intro (show (4 : Int) ≠ 0 by decide) (And.intro (show (5 : Int) ≠ 0 by decide) (And.intro (Int.le_refl _) (Good.mI v0 (fun r3 h1 v2 => And.intro (fun c4 => And.intro rfl (v2.1 c4)) (fun c4 => And.intro (show (4 : Int) ≠ 0 by decide) (And.intro (show (5 : Int) ≠ 0 by decide) (And.intro (Int.le_refl _) (Good.mI (v2.2 c4) (fun r7 h5 v6 => And.intro (fun c8 => And.intro (show (4 : Int) ≠ 0 by decide) (And.intro (show (5 : Int) ≠ 0 by decide) (And.intro (Int.le_refl _) (Good.mI (v6.1 c8) (fun r11 h9 v10 => And.intro (Int.le_refl _) (Good.mI v10 (fun r14 h12 v13 => And.intro rfl v13))))))) (fun c8 => And.intro rfl (v6.2 c8))))))))))))
theorem g9_isUnder {g : Gl} {d : Nat} {Q : LV → Hp → Prop} {x1 x2 : Int} {h : Hp} (X : inI x1 → inI x2 → L0 g d m9_isUnder Q 0 [some (LR 9 4), some (LI x1), some (LI x2)] h) : Good g (d + 1) i9_isUnder [LR 9 4, LI x1, LI x2] S0 h S0 Q := Good.body (M := m9_isUnder) k9_isUnder (Int.le_refl _) (Nat.le_of_ble_eq_true rfl) (fun hok => X (hok _ (List.mem_cons_of_mem _ List.mem_cons_self)) (hok _ (List.mem_cons_of_mem _ (List.mem_cons_of_mem _ List.mem_cons_self))))
set_option maxRecDepth 20000 in
theorem v9_head {g : Gl} {d : Nat} {Q : Int → Hp → Prop} {x1 x2 x3 : Int} {h : Hp} (v0 : Good g d i2_hasKind [LR 2 5, LL x1] S0 h S0 (retI (fun r3 h1 =>
 ((¬ r3 = 0 → ((x2 < 0 → Q (-1002) h1) ∧
 (¬ x2 < 0 → ((x2 ≤ 4 → Good g d i2_addHead [LR 2 5, LI x1, LI x2, LI x3] S0 h1 S0 (retI (fun r9 h7 =>
 Q r9 h7))) ∧
 (¬ x2 ≤ 4 → Q (-1002) h1))))) ∧
 (r3 = 0 → Q (-1001) h1))))) : L0 g d m9_head (retI Q) 0 [some (LR 9 4), some (LI x1), some (LI x2), some (LI x3)] h :=
 LW.run 40 [] k9_head (And.intro (show (4 : Int) ≠ 0 by decide) (And.intro (show (5 : Int) ≠ 0 by decide) (And.intro (Int.le_refl _) (Good.mI v0 (fun r3 h1 v2 => And.intro (fun c4 => And.intro (fun c5 => And.intro rfl ((v2.1 c4).1 c5)) (fun c5 => And.intro (fun c6 => And.intro (show (4 : Int) ≠ 0 by decide) (And.intro (show (5 : Int) ≠ 0 by decide) (And.intro (Int.le_refl _) (Good.mI (((v2.1 c4).2 c5).1 c6) (fun r9 h7 v8 => And.intro rfl v8))))) (fun c6 => And.intro rfl (((v2.1 c4).2 c5).2 c6)))) (fun c4 => And.intro rfl (v2.2 c4)))))))
theorem g9_head {g : Gl} {d : Nat} {Q : LV → Hp → Prop} {x1 x2 x3 : Int} {h : Hp} (X : inI x1 → inI x2 → inI x3 → L0 g d m9_head Q 0 [some (LR 9 4), some (LI x1), some (LI x2), some (LI x3)] h) : Good g (d + 1) i9_head [LR 9 4, LI x1, LI x2, LI x3] S0 h S0 Q := Good.body (M := m9_head) k9_head (Int.le_refl _) (Nat.le_of_ble_eq_true rfl) (fun hok => X (hok _ (List.mem_cons_of_mem _ List.mem_cons_self)) (hok _ (List.mem_cons_of_mem _ (List.mem_cons_of_mem _ List.mem_cons_self))) (hok _ (List.mem_cons_of_mem _ (List.mem_cons_of_mem _ (List.mem_cons_of_mem _ List.mem_cons_self)))))
set_option maxRecDepth 20000 in
theorem v9_feed {g : Gl} {d : Nat} {Q : Int → Hp → Prop} {x1 x2 x3 x4 x5 : Int} {h : Hp} (v0 : (((h 10 1) ≤ 980 → Good g d i8_addFour [LR 8 10, LI x1] S0 h S0 (retV (fun h2 =>
 Good g d i8_addFour [LR 8 10, LI x2] S0 h2 S0 (retV (fun h4 =>
 Good g d i8_addFour [LR 8 10, LI x3] S0 h4 S0 (retV (fun h6 =>
 Good g d i8_addFour [LR 8 10, LI x4] S0 h6 S0 (retV (fun h8 =>
 Good g d i8_addFour [LR 8 10, LI x5] S0 h8 S0 (retV (fun h10 =>
 Q (h10 10 1) h10))))))))))) ∧
 (¬ (h 10 1) ≤ 980 → Q (-1004) h))) : L0 g d m9_feed (retI Q) 0 [some (LR 9 4), some (LI x1), some (LI x2), some (LI x3), some (LI x4), some (LI x5)] h :=
 LW.run 40 [] k9_feed (And.intro (show (4 : Int) ≠ 0 by decide) (And.intro (show (10 : Int) ≠ 0 by decide) (And.intro (fun c1 => And.intro (show (4 : Int) ≠ 0 by decide) (And.intro (show (10 : Int) ≠ 0 by decide) (And.intro (Int.le_refl _) (Good.mV (v0.1 c1) (fun h2 v3 => And.intro (show (4 : Int) ≠ 0 by decide) (And.intro (show (10 : Int) ≠ 0 by decide) (And.intro (Int.le_refl _) (Good.mV v3 (fun h4 v5 => And.intro (show (4 : Int) ≠ 0 by decide) (And.intro (show (10 : Int) ≠ 0 by decide) (And.intro (Int.le_refl _) (Good.mV v5 (fun h6 v7 => And.intro (show (4 : Int) ≠ 0 by decide) (And.intro (show (10 : Int) ≠ 0 by decide) (And.intro (Int.le_refl _) (Good.mV v7 (fun h8 v9 => And.intro (show (4 : Int) ≠ 0 by decide) (And.intro (show (10 : Int) ≠ 0 by decide) (And.intro (Int.le_refl _) (Good.mV v9 (fun h10 v11 => And.intro (show (4 : Int) ≠ 0 by decide) (And.intro (show (10 : Int) ≠ 0 by decide) (And.intro rfl v11))))))))))))))))))))))) (fun c1 => And.intro rfl (v0.2 c1)))))
theorem g9_feed {g : Gl} {d : Nat} {Q : LV → Hp → Prop} {x1 x2 x3 x4 x5 : Int} {h : Hp} (X : inI x1 → inI x2 → inI x3 → inI x4 → inI x5 → L0 g d m9_feed Q 0 [some (LR 9 4), some (LI x1), some (LI x2), some (LI x3), some (LI x4), some (LI x5)] h) : Good g (d + 1) i9_feed [LR 9 4, LI x1, LI x2, LI x3, LI x4, LI x5] S0 h S0 Q := Good.body (M := m9_feed) k9_feed (Int.le_refl _) (Nat.le_of_ble_eq_true rfl) (fun hok => X (hok _ (List.mem_cons_of_mem _ List.mem_cons_self)) (hok _ (List.mem_cons_of_mem _ (List.mem_cons_of_mem _ List.mem_cons_self))) (hok _ (List.mem_cons_of_mem _ (List.mem_cons_of_mem _ (List.mem_cons_of_mem _ List.mem_cons_self)))) (hok _ (List.mem_cons_of_mem _ (List.mem_cons_of_mem _ (List.mem_cons_of_mem _ (List.mem_cons_of_mem _ List.mem_cons_self))))) (hok _ (List.mem_cons_of_mem _ (List.mem_cons_of_mem _ (List.mem_cons_of_mem _ (List.mem_cons_of_mem _ (List.mem_cons_of_mem _ List.mem_cons_self)))))))
set_option maxRecDepth 20000 in
theorem v9_cut {g : Gl} {d : Nat} {Q : Int → Hp → Prop} {x1 : Int} {h : Hp} (v0 : ((x1 < 0 → Q (-1002) h) ∧
 (¬ x1 < 0 → ((x1 ≤ (h 10 1) → ∀ h3 : Hp, h3 = hup h 10 1 x1 →
 Q (w32 ((h 10 1) - x1)) h3) ∧
 (¬ x1 ≤ (h 10 1) → Q (-1002) h))))) : L0 g d m9_cut (retI Q) 0 [some (LR 9 4), some (LI x1), none] h :=
 LW.run 40 [] k9_cut (And.intro (fun c1 => And.intro rfl (v0.1 c1)) (fun c1 => And.intro (show (4 : Int) ≠ 0 by decide) (And.intro (show (10 : Int) ≠ 0 by decide) (And.intro (fun c2 => And.intro (show (4 : Int) ≠ 0 by decide) (And.intro (show (10 : Int) ≠ 0 by decide) (And.intro (show (4 : Int) ≠ 0 by decide) (And.intro (show (10 : Int) ≠ 0 by decide) (And.intro rfl (((v0.2 c1).1 c2) _ rfl)))))) (fun c2 => And.intro rfl ((v0.2 c1).2 c2))))))
theorem g9_cut {g : Gl} {d : Nat} {Q : LV → Hp → Prop} {x1 : Int} {h : Hp} (X : inI x1 → L0 g d m9_cut Q 0 [some (LR 9 4), some (LI x1), none] h) : Good g (d + 1) i9_cut [LR 9 4, LI x1] S0 h S0 Q := Good.body (M := m9_cut) k9_cut (Int.le_refl _) (Nat.le_of_ble_eq_true rfl) (fun hok => X (hok _ (List.mem_cons_of_mem _ List.mem_cons_self)))
set_option maxRecDepth 20000 in
theorem v9_pattern {g : Gl} {d : Nat} {Q : Int → Hp → Prop} {x1 : Int} {h : Hp} (v0 : ((x1 < 0 → Q (-1002) h) ∧
 (¬ x1 < 0 → ((x1 ≤ 1000 → Good g d i9_freeNumber [LR 9 4] S0 h S0 (retI (fun r5 h3 =>
 ((¬ r5 = (-1) → Good g d i7_read [LR 7 597, LI 1, LI 24] S0 h3 S0 (retI (fun r9 h7 =>
 ((r9 = 0 → 0 ≤ r5 ∧ r5 < 40 ∧ Good g d i6_take [LR 6 (35 + 14 * r5), LR 5 24, LI x1, LR 2 5] S0 h7 S0 (retV (fun h11 =>
 Good g d i9_forgetAnswers [LR 9 4] S0 h11 S0 (retV (fun h13 =>
 Q r5 h13))))) ∧
 (¬ r9 = 0 → Q (w32 ((-10) - r9)) h7))))) ∧
 (r5 = (-1) → Q (-1004) h3))))) ∧
 (¬ x1 ≤ 1000 → Q (-1002) h))))) : L0 g d m9_pattern (retI Q) 0 [some (LR 9 4), some (LI x1), none, none] h :=
 LW.run 40 [] k9_pattern (And.intro (fun c1 => And.intro rfl (v0.1 c1)) (fun c1 => And.intro (fun c2 => And.intro (show (4 : Int) ≠ 0 by decide) (And.intro (Int.le_refl _) (Good.mI ((v0.2 c1).1 c2) (fun r5 h3 v4 => And.intro (fun c6 => And.intro (show (4 : Int) ≠ 0 by decide) (And.intro (show (597 : Int) ≠ 0 by decide) (And.intro (Int.le_refl _) (Good.mI (v4.1 c6) (fun r9 h7 v8 => And.intro (fun c10 => And.intro (show (4 : Int) ≠ 0 by decide) (And.intro (show (34 : Int) ≠ 0 by decide) (And.intro (v8.1 c10).1 (And.intro (v8.1 c10).2.1 (And.intro (show (4 : Int) ≠ 0 by decide) (And.intro (show (4 : Int) ≠ 0 by decide) (And.intro (show (35 + 14 * r5) ≠ 0 from z14 (v8.1 c10).1) (And.intro (Int.le_refl _) (Good.mV (v8.1 c10).2.2 (fun h11 v12 => And.intro (show (4 : Int) ≠ 0 by decide) (And.intro (Int.le_refl _) (Good.mV v12 (fun h13 v14 => And.intro rfl v14))))))))))))) (fun c10 => And.intro rfl (v8.2 c10))))))) (fun c6 => And.intro rfl (v4.2 c6)))))) (fun c2 => And.intro rfl ((v0.2 c1).2 c2))))
theorem g9_pattern {g : Gl} {d : Nat} {Q : LV → Hp → Prop} {x1 : Int} {h : Hp} (X : inI x1 → L0 g d m9_pattern Q 0 [some (LR 9 4), some (LI x1), none, none] h) : Good g (d + 1) i9_pattern [LR 9 4, LI x1] S0 h S0 Q := Good.body (M := m9_pattern) k9_pattern (Int.le_refl _) (Nat.le_of_ble_eq_true rfl) (fun hok => X (hok _ (List.mem_cons_of_mem _ List.mem_cons_self)))
set_option maxRecDepth 20000 in
theorem v9_drop {g : Gl} {d : Nat} {Q : Int → Hp → Prop} {x1 : Int} {h : Hp} (v0 : Good g d i9_patternOf [LR 9 4, LI x1] S0 h S0 (retR 6 (fun r3 h1 =>
 ((¬ r3 = 0 → ∀ h5 : Hp, h5 = hup h1 r3 3 0 →
 Good g d i9_forgetAnswers [LR 9 4] S0 h5 S0 (retV (fun h6 =>
 Good g d i9_presentPatterns [LR 9 4] S0 h6 S0 (retI (fun r10 h8 =>
 Q r10 h8))))) ∧
 (r3 = 0 → Q (-1001) h1))))) : L0 g d m9_drop (retI Q) 0 [some (LR 9 4), some (LI x1), none] h :=
 LW.run 40 [] k9_drop (And.intro (show (4 : Int) ≠ 0 by decide) (And.intro (Int.le_refl _) (Good.mR v0 (fun r3 h1 v2 => And.intro (fun c4 => And.intro c4 (And.intro (Or.inl rfl) (And.intro (show (4 : Int) ≠ 0 by decide) (And.intro (Int.le_refl _) (Good.mV ((v2.1 c4) _ rfl) (fun h6 v7 => And.intro (show (4 : Int) ≠ 0 by decide) (And.intro (Int.le_refl _) (Good.mI v7 (fun r10 h8 v9 => And.intro rfl v9))))))))) (fun c4 => And.intro rfl (v2.2 c4))))))
theorem g9_drop {g : Gl} {d : Nat} {Q : LV → Hp → Prop} {x1 : Int} {h : Hp} (X : inI x1 → L0 g d m9_drop Q 0 [some (LR 9 4), some (LI x1), none] h) : Good g (d + 1) i9_drop [LR 9 4, LI x1] S0 h S0 Q := Good.body (M := m9_drop) k9_drop (Int.le_refl _) (Nat.le_of_ble_eq_true rfl) (fun hok => X (hok _ (List.mem_cons_of_mem _ List.mem_cons_self)))
set_option maxRecDepth 20000 in
theorem v9_tree {g : Gl} {d : Nat} {Q : Int → Hp → Prop} {h : Hp} (v0 : Good g d i9_replaceInTree [LR 9 4, LI 0, LI (h 14 9)] S0 h S0 (retI (fun r3 h1 =>
 Q r3 h1))) : L0 g d m9_tree (retI Q) 0 [some (LR 9 4)] h :=
 LW.run 40 [] k9_tree (And.intro (show (4 : Int) ≠ 0 by decide) (And.intro (show (14 : Int) ≠ 0 by decide) (And.intro (show (4 : Int) ≠ 0 by decide) (And.intro (Int.le_refl _) (Good.mI v0 (fun r3 h1 v2 => And.intro rfl v2))))))
theorem g9_tree {g : Gl} {d : Nat} {Q : LV → Hp → Prop} {h : Hp} (X : L0 g d m9_tree Q 0 [some (LR 9 4)] h) : Good g (d + 1) i9_tree [LR 9 4] S0 h S0 Q := Good.body (M := m9_tree) k9_tree (Int.le_refl _) (Nat.le_of_ble_eq_true rfl) (fun hok => X )
set_option maxRecDepth 20000 in
theorem v9_change {g : Gl} {d : Nat} {Q : Int → Hp → Prop} {x1 : Int} {h : Hp} (v0 : Good g d i5_has [LR 5 14, LI x1] S0 h S0 (retI (fun r3 h1 =>
 ((¬ r3 = 0 → 0 ≤ x1 ∧ x1 < 120 ∧ Good g d i9_replaceInTree [LR 9 4, LI x1, LI (h1 23 x1)] S0 h1 S0 (retI (fun r7 h5 =>
 Q r7 h5))) ∧
 (r3 = 0 → Q (-1001) h1))))) : L0 g d m9_change (retI Q) 0 [some (LR 9 4), some (LI x1)] h :=
 LW.run 40 [] k9_change (And.intro (show (4 : Int) ≠ 0 by decide) (And.intro (show (14 : Int) ≠ 0 by decide) (And.intro (Int.le_refl _) (Good.mI v0 (fun r3 h1 v2 => And.intro (fun c4 => And.intro (show (4 : Int) ≠ 0 by decide) (And.intro (show (14 : Int) ≠ 0 by decide) (And.intro (show (23 : Int) ≠ 0 by decide) (And.intro (v2.1 c4).1 (And.intro (v2.1 c4).2.1 (And.intro (show (4 : Int) ≠ 0 by decide) (And.intro (Int.le_refl _) (Good.mI (v2.1 c4).2.2 (fun r7 h5 v6 => And.intro rfl v6))))))))) (fun c4 => And.intro rfl (v2.2 c4)))))))
theorem g9_change {g : Gl} {d : Nat} {Q : LV → Hp → Prop} {x1 : Int} {h : Hp} (X : inI x1 → L0 g d m9_change Q 0 [some (LR 9 4), some (LI x1)] h) : Good g (d + 1) i9_change [LR 9 4, LI x1] S0 h S0 Q := Good.body (M := m9_change) k9_change (Int.le_refl _) (Nat.le_of_ble_eq_true rfl) (fun hok => X (hok _ (List.mem_cons_of_mem _ List.mem_cons_self)))
set_option maxRecDepth 20000 in
theorem v9_place {g : Gl} {d : Nat} {Q : Int → Hp → Prop} {h : Hp} (v0 : Q (h 597 8) h) : L0 g d m9_place (retI Q) 0 [some (LR 9 4)] h :=
 LW.run 40 [] k9_place (And.intro (show (4 : Int) ≠ 0 by decide) (And.intro (show (597 : Int) ≠ 0 by decide) (And.intro rfl v0)))
theorem g9_place {g : Gl} {d : Nat} {Q : LV → Hp → Prop} {h : Hp} (X : L0 g d m9_place Q 0 [some (LR 9 4)] h) : Good g (d + 1) i9_place [LR 9 4] S0 h S0 Q := Good.body (M := m9_place) k9_place (Int.le_refl _) (Nat.le_of_ble_eq_true rfl) (fun hok => X )
set_option maxRecDepth 20000 in
theorem v9_count {g : Gl} {d : Nat} {Q : Int → Hp → Prop} {x1 : Int} {h : Hp} (v0 : (((x1 < 0 ∨ 8 < x1) → Q (-1002) h) ∧
 (x1 = 0 → Q (h 5 4) h) ∧
 (x1 = 1 → Q (h 5 5) h) ∧
 (x1 = 2 → Good g d i9_presentPatterns [LR 9 4] S0 h S0 (retI (fun r7 h5 =>
 Q r7 h5))) ∧
 (x1 = 3 → Q (h 14 9) h) ∧
 (x1 = 4 → Good g d i4_patternsIn [LR 4 605] S0 h S0 (retI (fun r12 h10 =>
 Q r12 h10))) ∧
 (x1 = 5 → Good g d i4_stepsIn [LR 4 605] S0 h S0 (retI (fun r16 h14 =>
 Q r16 h14))) ∧
 (x1 = 6 → Good g d i4_marksIn [LR 4 605] S0 h S0 (retI (fun r20 h18 =>
 Q r20 h18))) ∧
 (x1 = 7 → Q (h 10 1) h) ∧
 (x1 = 8 → Q (h 12 1) h))) : L0 g d m9_count (retI Q) 0 [some (LR 9 4), some (LI x1)] h :=
 LW.run 40 [] k9_count (And.intro (fun c1 => And.intro rfl (v0.1 c1)) (And.intro (fun c2 => And.intro (show (4 : Int) ≠ 0 by decide) (And.intro (show (5 : Int) ≠ 0 by decide) (And.intro rfl (v0.2.1 c2)))) (And.intro (fun c3 => And.intro (show (4 : Int) ≠ 0 by decide) (And.intro (show (5 : Int) ≠ 0 by decide) (And.intro rfl (v0.2.2.1 c3)))) (And.intro (fun c4 => And.intro (show (4 : Int) ≠ 0 by decide) (And.intro (Int.le_refl _) (Good.mI (v0.2.2.2.1 c4) (fun r7 h5 v6 => And.intro rfl v6)))) (And.intro (fun c8 => And.intro (show (4 : Int) ≠ 0 by decide) (And.intro (show (14 : Int) ≠ 0 by decide) (And.intro rfl (v0.2.2.2.2.1 c8)))) (And.intro (fun c9 => And.intro (show (4 : Int) ≠ 0 by decide) (And.intro (show (605 : Int) ≠ 0 by decide) (And.intro (Int.le_refl _) (Good.mI (v0.2.2.2.2.2.1 c9) (fun r12 h10 v11 => And.intro rfl v11))))) (And.intro (fun c13 => And.intro (show (4 : Int) ≠ 0 by decide) (And.intro (show (605 : Int) ≠ 0 by decide) (And.intro (Int.le_refl _) (Good.mI (v0.2.2.2.2.2.2.1 c13) (fun r16 h14 v15 => And.intro rfl v15))))) (And.intro (fun c17 => And.intro (show (4 : Int) ≠ 0 by decide) (And.intro (show (605 : Int) ≠ 0 by decide) (And.intro (Int.le_refl _) (Good.mI (v0.2.2.2.2.2.2.2.1 c17) (fun r20 h18 v19 => And.intro rfl v19))))) (And.intro (fun c21 => And.intro (show (4 : Int) ≠ 0 by decide) (And.intro (show (10 : Int) ≠ 0 by decide) (And.intro rfl (v0.2.2.2.2.2.2.2.2.1 c21)))) (And.intro (fun c22 => And.intro (show (4 : Int) ≠ 0 by decide) (And.intro (show (12 : Int) ≠ 0 by decide) (And.intro rfl (v0.2.2.2.2.2.2.2.2.2 c22)))) (trivial)))))))))))
theorem g9_count {g : Gl} {d : Nat} {Q : LV → Hp → Prop} {x1 : Int} {h : Hp} (X : inI x1 → L0 g d m9_count Q 0 [some (LR 9 4), some (LI x1)] h) : Good g (d + 1) i9_count [LR 9 4, LI x1] S0 h S0 Q := Good.body (M := m9_count) k9_count (Int.le_refl _) (Nat.le_of_ble_eq_true rfl) (fun hok => X (hok _ (List.mem_cons_of_mem _ List.mem_cons_self)))
set_option maxRecDepth 20000 in
theorem v9_told {g : Gl} {d : Nat} {Q : Int → Hp → Prop} {x1 x2 : Int} {h : Hp} (v0 : Good g d i9_patternOf [LR 9 4, LI x1] S0 h S0 (retR 6 (fun r3 h1 =>
 ((¬ r3 = 0 → (((x2 < 0 ∨ 5 < x2) → Q (-1002) h1) ∧
 (x2 = 0 → Q (h1 r3 4) h1) ∧
 (x2 = 1 → (r3 + 1) ≠ 0 ∧ Q (h1 (r3 + 1) 9) h1) ∧
 (x2 = 2 → Good g d i6_isInNet [LR 6 r3] S0 h1 S0 (retI (fun r11 h9 =>
 Good g d i9_asInt [LI r11] S0 h9 S0 (retI (fun r14 h12 =>
 Q r14 h12))))) ∧
 (x2 = 3 → Q (h1 r3 5) h1) ∧
 (x2 = 4 → Q (h1 r3 6) h1) ∧
 (x2 = 5 → Q (h1 r3 7) h1))) ∧
 (r3 = 0 → Q (-1001) h1))))) : L0 g d m9_told (retI Q) 0 [some (LR 9 4), some (LI x1), some (LI x2), none] h :=
 LW.run 40 [] k9_told (And.intro (show (4 : Int) ≠ 0 by decide) (And.intro (Int.le_refl _) (Good.mR v0 (fun r3 h1 v2 => And.intro (fun c4 => And.intro (fun c5 => And.intro rfl ((v2.1 c4).1 c5)) (And.intro (fun c6 => And.intro c4 (And.intro rfl ((v2.1 c4).2.1 c6))) (And.intro (fun c7 => And.intro c4 (And.intro ((v2.1 c4).2.2.1 c7).1 (And.intro rfl ((v2.1 c4).2.2.1 c7).2))) (And.intro (fun c8 => And.intro c4 (And.intro (Int.le_refl _) (Good.mI ((v2.1 c4).2.2.2.1 c8) (fun r11 h9 v10 => And.intro (Int.le_refl _) (Good.mI v10 (fun r14 h12 v13 => And.intro rfl v13)))))) (And.intro (fun c15 => And.intro c4 (And.intro rfl ((v2.1 c4).2.2.2.2.1 c15))) (And.intro (fun c16 => And.intro c4 (And.intro rfl ((v2.1 c4).2.2.2.2.2.1 c16))) (And.intro (fun c17 => And.intro c4 (And.intro rfl ((v2.1 c4).2.2.2.2.2.2 c17))) (trivial)))))))) (fun c4 => And.intro rfl (v2.2 c4))))))
theorem g9_told {g : Gl} {d : Nat} {Q : LV → Hp → Prop} {x1 x2 : Int} {h : Hp} (X : inI x1 → inI x2 → L0 g d m9_told Q 0 [some (LR 9 4), some (LI x1), some (LI x2), none] h) : Good g (d + 1) i9_told [LR 9 4, LI x1, LI x2] S0 h S0 Q := Good.body (M := m9_told) k9_told (Int.le_refl _) (Nat.le_of_ble_eq_true rfl) (fun hok => X (hok _ (List.mem_cons_of_mem _ List.mem_cons_self)) (hok _ (List.mem_cons_of_mem _ (List.mem_cons_of_mem _ List.mem_cons_self))))
set_option maxRecDepth 20000 in
theorem v9_node {g : Gl} {d : Nat} {Q : Int → Hp → Prop} {x1 x2 : Int} {h : Hp} (v0 : Good g d i5_has [LR 5 14, LI x1] S0 h S0 (retI (fun r3 h1 =>
 ((¬ r3 = 0 → (((x2 < 0 ∨ 4 < x2) → Q (-1002) h1) ∧
 (x2 = 0 → 0 ≤ x1 ∧ x1 < 120 ∧ Q (h1 16 x1) h1) ∧
 (x2 = 1 → 0 ≤ x1 ∧ x1 < 120 ∧ Q (h1 20 x1) h1) ∧
 (x2 = 2 → 0 ≤ x1 ∧ x1 < 120 ∧ Q (h1 22 x1) h1) ∧
 (x2 = 3 → 0 ≤ x1 ∧ x1 < 120 ∧ Q (h1 23 x1) h1) ∧
 (x2 = 4 → Good g d i2_kindOfNode [LR 2 5, LR 5 14, LI x1] S0 h1 S0 (retI (fun r13 h11 =>
 Q r13 h11))))) ∧
 (r3 = 0 → Q (-1001) h1))))) : L0 g d m9_node (retL Q) 0 [some (LR 9 4), some (LI x1), some (LI x2)] h :=
 LW.run 40 [] k9_node (And.intro (show (4 : Int) ≠ 0 by decide) (And.intro (show (14 : Int) ≠ 0 by decide) (And.intro (Int.le_refl _) (Good.mI v0 (fun r3 h1 v2 => And.intro (fun c4 => And.intro (fun c5 => And.intro rfl ((v2.1 c4).1 c5)) (And.intro (fun c6 => And.intro (show (4 : Int) ≠ 0 by decide) (And.intro (show (14 : Int) ≠ 0 by decide) (And.intro (show (16 : Int) ≠ 0 by decide) (And.intro ((v2.1 c4).2.1 c6).1 (And.intro ((v2.1 c4).2.1 c6).2.1 (And.intro rfl ((v2.1 c4).2.1 c6).2.2)))))) (And.intro (fun c7 => And.intro (show (4 : Int) ≠ 0 by decide) (And.intro (show (14 : Int) ≠ 0 by decide) (And.intro (show (20 : Int) ≠ 0 by decide) (And.intro ((v2.1 c4).2.2.1 c7).1 (And.intro ((v2.1 c4).2.2.1 c7).2.1 (And.intro rfl ((v2.1 c4).2.2.1 c7).2.2)))))) (And.intro (fun c8 => And.intro (show (4 : Int) ≠ 0 by decide) (And.intro (show (14 : Int) ≠ 0 by decide) (And.intro (show (22 : Int) ≠ 0 by decide) (And.intro ((v2.1 c4).2.2.2.1 c8).1 (And.intro ((v2.1 c4).2.2.2.1 c8).2.1 (And.intro rfl ((v2.1 c4).2.2.2.1 c8).2.2)))))) (And.intro (fun c9 => And.intro (show (4 : Int) ≠ 0 by decide) (And.intro (show (14 : Int) ≠ 0 by decide) (And.intro (show (23 : Int) ≠ 0 by decide) (And.intro ((v2.1 c4).2.2.2.2.1 c9).1 (And.intro ((v2.1 c4).2.2.2.2.1 c9).2.1 (And.intro rfl ((v2.1 c4).2.2.2.2.1 c9).2.2)))))) (And.intro (fun c10 => And.intro (show (4 : Int) ≠ 0 by decide) (And.intro (show (4 : Int) ≠ 0 by decide) (And.intro (show (5 : Int) ≠ 0 by decide) (And.intro (Int.le_refl _) (Good.mI ((v2.1 c4).2.2.2.2.2 c10) (fun r13 h11 v12 => And.intro rfl v12)))))) (trivial))))))) (fun c4 => And.intro rfl (v2.2 c4)))))))
theorem g9_node {g : Gl} {d : Nat} {Q : LV → Hp → Prop} {x1 x2 : Int} {h : Hp} (X : inI x1 → inI x2 → L0 g d m9_node Q 0 [some (LR 9 4), some (LI x1), some (LI x2)] h) : Good g (d + 1) i9_node [LR 9 4, LI x1, LI x2] S0 h S0 Q := Good.body (M := m9_node) k9_node (Int.le_refl _) (Nat.le_of_ble_eq_true rfl) (fun hok => X (hok _ (List.mem_cons_of_mem _ List.mem_cons_self)) (hok _ (List.mem_cons_of_mem _ (List.mem_cons_of_mem _ List.mem_cons_self))))
set_option maxRecDepth 20000 in
theorem v9_alike {g : Gl} {d : Nat} {Q : Int → Hp → Prop} {x1 x2 : Int} {h : Hp} (v0 : Good g d i5_has [LR 5 14, LI x1] S0 h S0 (retI (fun r3 h1 =>
 ((r3 = 0 → Q (-1001) h1) ∧
 (¬ r3 = 0 → Good g d i5_has [LR 5 14, LI x2] S0 h1 S0 (retI (fun r7 h5 =>
 ((¬ r7 = 0 → Good g d i5_areAlike [LR 5 14, LI x1, LI x2] S0 h5 S0 (retI (fun r11 h9 =>
 Good g d i9_asInt [LI r11] S0 h9 S0 (retI (fun r14 h12 =>
 Q r14 h12))))) ∧
 (r7 = 0 → Q (-1001) h5))))))))) : L0 g d m9_alike (retI Q) 0 [some (LR 9 4), some (LI x1), some (LI x2)] h :=
 LW.run 40 [] k9_alike (And.intro (show (4 : Int) ≠ 0 by decide) (And.intro (show (14 : Int) ≠ 0 by decide) (And.intro (Int.le_refl _) (Good.mI v0 (fun r3 h1 v2 => And.intro (fun c4 => And.intro rfl (v2.1 c4)) (fun c4 => And.intro (show (4 : Int) ≠ 0 by decide) (And.intro (show (14 : Int) ≠ 0 by decide) (And.intro (Int.le_refl _) (Good.mI (v2.2 c4) (fun r7 h5 v6 => And.intro (fun c8 => And.intro (show (4 : Int) ≠ 0 by decide) (And.intro (show (14 : Int) ≠ 0 by decide) (And.intro (Int.le_refl _) (Good.mI (v6.1 c8) (fun r11 h9 v10 => And.intro (Int.le_refl _) (Good.mI v10 (fun r14 h12 v13 => And.intro rfl v13))))))) (fun c8 => And.intro rfl (v6.2 c8))))))))))))
theorem g9_alike {g : Gl} {d : Nat} {Q : LV → Hp → Prop} {x1 x2 : Int} {h : Hp} (X : inI x1 → inI x2 → L0 g d m9_alike Q 0 [some (LR 9 4), some (LI x1), some (LI x2)] h) : Good g (d + 1) i9_alike [LR 9 4, LI x1, LI x2] S0 h S0 Q := Good.body (M := m9_alike) k9_alike (Int.le_refl _) (Nat.le_of_ble_eq_true rfl) (fun hok => X (hok _ (List.mem_cons_of_mem _ List.mem_cons_self)) (hok _ (List.mem_cons_of_mem _ (List.mem_cons_of_mem _ List.mem_cons_self))))
set_option maxRecDepth 20000 in
theorem v9_ask {g : Gl} {d : Nat} {Q : Int → Hp → Prop} {h : Hp} (v0 : ((¬ (h 14 9) = 0 → (((h 4 13) = 0 ∨ (h 4 13) = 1) → ((¬ (h 4 13) = 0 → Q (h 4 12) h) ∧
 ((h 4 13) = 0 → Good g d i9_askAll [LR 9 4] S0 h S0 (retV (fun h4 =>
 Q (h4 4 12) h4)))))) ∧
 ((h 14 9) = 0 → Q (-1003) h))) : L0 g d m9_ask (retI Q) 0 [some (LR 9 4)] h :=
 LW.run 40 [] k9_ask (And.intro (show (4 : Int) ≠ 0 by decide) (And.intro (show (14 : Int) ≠ 0 by decide) (And.intro (fun c1 => And.intro (show (4 : Int) ≠ 0 by decide) (fun c2 => And.intro (fun c3 => And.intro (show (4 : Int) ≠ 0 by decide) (And.intro rfl (((v0.1 c1) c2).1 c3))) (fun c3 => And.intro (show (4 : Int) ≠ 0 by decide) (And.intro (Int.le_refl _) (Good.mV (((v0.1 c1) c2).2 c3) (fun h4 v5 => And.intro (show (4 : Int) ≠ 0 by decide) (And.intro rfl v5))))))) (fun c1 => And.intro rfl (v0.2 c1)))))
theorem g9_ask {g : Gl} {d : Nat} {Q : LV → Hp → Prop} {h : Hp} (X : L0 g d m9_ask Q 0 [some (LR 9 4)] h) : Good g (d + 1) i9_ask [LR 9 4] S0 h S0 Q := Good.body (M := m9_ask) k9_ask (Int.le_refl _) (Nat.le_of_ble_eq_true rfl) (fun hok => X )
set_option maxRecDepth 20000 in
theorem v9_fit {g : Gl} {d : Nat} {Q : Int → Hp → Prop} {x1 : Int} {h : Hp} (v0 : (((h 4 13) = 0 ∨ (h 4 13) = 1) → ((¬ (h 4 13) = 0 → ((x1 < 0 → Q (-1) h) ∧
 (¬ x1 < 0 → (((h 4 12) ≤ x1 → Q (-1) h) ∧
 (¬ (h 4 12) ≤ x1 → 0 ≤ x1 ∧ x1 < 40 ∧ Q (h 607 x1) h))))) ∧
 ((h 4 13) = 0 → Q (-1003) h)))) : L0 g d m9_fit (retI Q) 0 [some (LR 9 4), some (LI x1)] h :=
 LW.run 40 [] k9_fit (And.intro (show (4 : Int) ≠ 0 by decide) (fun c1 => And.intro (fun c2 => And.intro (fun c3 => And.intro rfl (((v0 c1).1 c2).1 c3)) (fun c3 => And.intro (show (4 : Int) ≠ 0 by decide) (And.intro (fun c4 => And.intro rfl ((((v0 c1).1 c2).2 c3).1 c4)) (fun c4 => And.intro (show (4 : Int) ≠ 0 by decide) (And.intro (show (607 : Int) ≠ 0 by decide) (And.intro ((((v0 c1).1 c2).2 c3).2 c4).1 (And.intro ((((v0 c1).1 c2).2 c3).2 c4).2.1 (And.intro rfl ((((v0 c1).1 c2).2 c3).2 c4).2.2)))))))) (fun c2 => And.intro rfl ((v0 c1).2 c2))))
theorem g9_fit {g : Gl} {d : Nat} {Q : LV → Hp → Prop} {x1 : Int} {h : Hp} (X : inI x1 → L0 g d m9_fit Q 0 [some (LR 9 4), some (LI x1)] h) : Good g (d + 1) i9_fit [LR 9 4, LI x1] S0 h S0 Q := Good.body (M := m9_fit) k9_fit (Int.le_refl _) (Nat.le_of_ble_eq_true rfl) (fun hok => X (hok _ (List.mem_cons_of_mem _ List.mem_cons_self)))
set_option maxRecDepth 20000 in
theorem v9_fillings {g : Gl} {d : Nat} {Q : Int → Hp → Prop} {x1 : Int} {h : Hp} (v0 : Good g d i9_patternOf [LR 9 4, LI x1] S0 h S0 (retR 6 (fun r3 h1 =>
 ((¬ r3 = 0 → (((h1 4 13) = 0 ∨ (h1 4 13) = 1) → (((h1 4 13) = 0 → Q (-1003) h1) ∧
 (¬ (h1 4 13) = 0 → (r3 + 12) ≠ 0 ∧ Q (h1 (r3 + 12) 1) h1)))) ∧
 (r3 = 0 → Q (-1001) h1))))) : L0 g d m9_fillings (retI Q) 0 [some (LR 9 4), some (LI x1), none] h :=
 LW.run 40 [] k9_fillings (And.intro (show (4 : Int) ≠ 0 by decide) (And.intro (Int.le_refl _) (Good.mR v0 (fun r3 h1 v2 => And.intro (fun c4 => And.intro (show (4 : Int) ≠ 0 by decide) (fun c5 => And.intro (fun c6 => And.intro rfl (((v2.1 c4) c5).1 c6)) (fun c6 => And.intro c4 (And.intro (((v2.1 c4) c5).2 c6).1 (And.intro rfl (((v2.1 c4) c5).2 c6).2))))) (fun c4 => And.intro rfl (v2.2 c4))))))
theorem g9_fillings {g : Gl} {d : Nat} {Q : LV → Hp → Prop} {x1 : Int} {h : Hp} (X : inI x1 → L0 g d m9_fillings Q 0 [some (LR 9 4), some (LI x1), none] h) : Good g (d + 1) i9_fillings [LR 9 4, LI x1] S0 h S0 Q := Good.body (M := m9_fillings) k9_fillings (Int.le_refl _) (Nat.le_of_ble_eq_true rfl) (fun hok => X (hok _ (List.mem_cons_of_mem _ List.mem_cons_self)))
set_option maxRecDepth 20000 in
theorem v9_filling {g : Gl} {d : Nat} {Q : Int → Hp → Prop} {x1 x2 x3 : Int} {h : Hp} (v0 : Good g d i9_patternOf [LR 9 4, LI x1] S0 h S0 (retR 6 (fun r3 h1 =>
 ((¬ r3 = 0 → (((h1 4 13) = 0 ∨ (h1 4 13) = 1) → ((¬ (h1 4 13) = 0 → (r3 + 12) ≠ 0 ∧ Good g d i0_has [LR 0 (r3 + 12), LI x2] S0 h1 S0 (retI (fun r9 h7 =>
 ((¬ r9 = 0 → ((x3 < 0 → Q (-1002) h7) ∧
 (¬ x3 < 0 → ((10 ≤ x3 → Q (-1002) h7) ∧
 (¬ 10 ≤ x3 → Good g d i0_nodeOf [LR 0 (r3 + 12), LI x2, LI x3] S0 h7 S0 (retI (fun r15 h13 =>
 Q r15 h13))))))) ∧
 (r9 = 0 → Q (-1001) h7))))) ∧
 ((h1 4 13) = 0 → Q (-1003) h1)))) ∧
 (r3 = 0 → Q (-1001) h1))))) : L0 g d m9_filling (retI Q) 0 [some (LR 9 4), some (LI x1), some (LI x2), some (LI x3), none] h :=
 LW.run 40 [] k9_filling (And.intro (show (4 : Int) ≠ 0 by decide) (And.intro (Int.le_refl _) (Good.mR v0 (fun r3 h1 v2 => And.intro (fun c4 => And.intro (show (4 : Int) ≠ 0 by decide) (fun c5 => And.intro (fun c6 => And.intro c4 (And.intro (((v2.1 c4) c5).1 c6).1 (And.intro (Int.le_refl _) (Good.mI (((v2.1 c4) c5).1 c6).2 (fun r9 h7 v8 => And.intro (fun c10 => And.intro (fun c11 => And.intro rfl ((v8.1 c10).1 c11)) (fun c11 => And.intro (fun c12 => And.intro rfl (((v8.1 c10).2 c11).1 c12)) (fun c12 => And.intro c4 (And.intro (((v2.1 c4) c5).1 c6).1 (And.intro (Int.le_refl _) (Good.mI (((v8.1 c10).2 c11).2 c12) (fun r15 h13 v14 => And.intro rfl v14))))))) (fun c10 => And.intro rfl (v8.2 c10))))))) (fun c6 => And.intro rfl (((v2.1 c4) c5).2 c6)))) (fun c4 => And.intro rfl (v2.2 c4))))))
theorem g9_filling {g : Gl} {d : Nat} {Q : LV → Hp → Prop} {x1 x2 x3 : Int} {h : Hp} (X : inI x1 → inI x2 → inI x3 → L0 g d m9_filling Q 0 [some (LR 9 4), some (LI x1), some (LI x2), some (LI x3), none] h) : Good g (d + 1) i9_filling [LR 9 4, LI x1, LI x2, LI x3] S0 h S0 Q := Good.body (M := m9_filling) k9_filling (Int.le_refl _) (Nat.le_of_ble_eq_true rfl) (fun hok => X (hok _ (List.mem_cons_of_mem _ List.mem_cons_self)) (hok _ (List.mem_cons_of_mem _ (List.mem_cons_of_mem _ List.mem_cons_self))) (hok _ (List.mem_cons_of_mem _ (List.mem_cons_of_mem _ (List.mem_cons_of_mem _ List.mem_cons_self)))))
set_option maxRecDepth 20000 in
theorem v9_asked {g : Gl} {d : Nat} {Q : Int → Hp → Prop} {x1 x2 : Int} {h : Hp} (v0 : Good g d i9_patternOf [LR 9 4, LI x1] S0 h S0 (retR 6 (fun r3 h1 =>
 ((¬ r3 = 0 → ((x2 < 0 → Q (-1002) h1) ∧
 (¬ x2 < 0 → ((x2 ≤ 2 → (((h1 4 13) = 0 ∨ (h1 4 13) = 1) → ((¬ (h1 4 13) = 0 → ((¬ x2 = 0 → ((¬ x2 = 1 → (r3 + 12) ≠ 0 ∧ (((h1 (r3 + 12) 4) = 0 ∨ (h1 (r3 + 12) 4) = 1) → Good g d i9_asInt [LI (h1 (r3 + 12) 4)] S0 h1 S0 (retI (fun r14 h12 =>
 Q r14 h12)))) ∧
 (x2 = 1 → (r3 + 12) ≠ 0 ∧ (((h1 (r3 + 12) 3) = 0 ∨ (h1 (r3 + 12) 3) = 1) → Good g d i9_asInt [LI (h1 (r3 + 12) 3)] S0 h1 S0 (retI (fun r18 h16 =>
 Q r18 h16)))))) ∧
 (x2 = 0 → (r3 + 12) ≠ 0 ∧ Q (h1 (r3 + 12) 2) h1))) ∧
 ((h1 4 13) = 0 → Q (-1003) h1)))) ∧
 (¬ x2 ≤ 2 → Q (-1002) h1))))) ∧
 (r3 = 0 → Q (-1001) h1))))) : L0 g d m9_asked (retI Q) 0 [some (LR 9 4), some (LI x1), some (LI x2), none] h :=
 LW.run 40 [] k9_asked (And.intro (show (4 : Int) ≠ 0 by decide) (And.intro (Int.le_refl _) (Good.mR v0 (fun r3 h1 v2 => And.intro (fun c4 => And.intro (fun c5 => And.intro rfl ((v2.1 c4).1 c5)) (fun c5 => And.intro (fun c6 => And.intro (show (4 : Int) ≠ 0 by decide) (fun c7 => And.intro (fun c8 => And.intro (fun c9 => And.intro (fun c10 => And.intro c4 (And.intro (((((((v2.1 c4).2 c5).1 c6) c7).1 c8).1 c9).1 c10).1 (fun c11 => And.intro (Int.le_refl _) (Good.mI ((((((((v2.1 c4).2 c5).1 c6) c7).1 c8).1 c9).1 c10).2 c11) (fun r14 h12 v13 => And.intro rfl v13))))) (fun c10 => And.intro c4 (And.intro (((((((v2.1 c4).2 c5).1 c6) c7).1 c8).1 c9).2 c10).1 (fun c15 => And.intro (Int.le_refl _) (Good.mI ((((((((v2.1 c4).2 c5).1 c6) c7).1 c8).1 c9).2 c10).2 c15) (fun r18 h16 v17 => And.intro rfl v17)))))) (fun c9 => And.intro c4 (And.intro ((((((v2.1 c4).2 c5).1 c6) c7).1 c8).2 c9).1 (And.intro rfl ((((((v2.1 c4).2 c5).1 c6) c7).1 c8).2 c9).2)))) (fun c8 => And.intro rfl (((((v2.1 c4).2 c5).1 c6) c7).2 c8)))) (fun c6 => And.intro rfl (((v2.1 c4).2 c5).2 c6)))) (fun c4 => And.intro rfl (v2.2 c4))))))
theorem g9_asked {g : Gl} {d : Nat} {Q : LV → Hp → Prop} {x1 x2 : Int} {h : Hp} (X : inI x1 → inI x2 → L0 g d m9_asked Q 0 [some (LR 9 4), some (LI x1), some (LI x2), none] h) : Good g (d + 1) i9_asked [LR 9 4, LI x1, LI x2] S0 h S0 Q := Good.body (M := m9_asked) k9_asked (Int.le_refl _) (Nat.le_of_ble_eq_true rfl) (fun hok => X (hok _ (List.mem_cons_of_mem _ List.mem_cons_self)) (hok _ (List.mem_cons_of_mem _ (List.mem_cons_of_mem _ List.mem_cons_self))))
set_option maxRecDepth 20000 in
theorem v9_at {g : Gl} {d : Nat} {Q : Int → Hp → Prop} {x1 x2 : Int} {h : Hp} (v0 : Good g d i9_patternOf [LR 9 4, LI x1] S0 h S0 (retR 6 (fun r3 h1 =>
 ((r3 = 0 → Q (-1001) h1) ∧
 (¬ r3 = 0 → Good g d i5_has [LR 5 14, LI x2] S0 h1 S0 (retI (fun r7 h5 =>
 ((¬ r7 = 0 → Good g d i3_run [LR 3 598, LR 6 r3, LI x2, LR 0 595, LI 0] S0 h5 S0 (retV (fun h9 =>
 Q (h9 595 1) h9))) ∧
 (r7 = 0 → Q (-1001) h5))))))))) : L0 g d m9_at (retI Q) 0 [some (LR 9 4), some (LI x1), some (LI x2), none] h :=
 LW.run 40 [] k9_at (And.intro (show (4 : Int) ≠ 0 by decide) (And.intro (Int.le_refl _) (Good.mR v0 (fun r3 h1 v2 => And.intro (fun c4 => And.intro rfl (v2.1 c4)) (fun c4 => And.intro (show (4 : Int) ≠ 0 by decide) (And.intro (show (14 : Int) ≠ 0 by decide) (And.intro (Int.le_refl _) (Good.mI (v2.2 c4) (fun r7 h5 v6 => And.intro (fun c8 => And.intro (show (4 : Int) ≠ 0 by decide) (And.intro (show (4 : Int) ≠ 0 by decide) (And.intro (show (598 : Int) ≠ 0 by decide) (And.intro (Int.le_refl _) (Good.mV (v6.1 c8) (fun h9 v10 => And.intro (show (4 : Int) ≠ 0 by decide) (And.intro (show (595 : Int) ≠ 0 by decide) (And.intro rfl v10)))))))) (fun c8 => And.intro rfl (v6.2 c8)))))))))))
theorem g9_at {g : Gl} {d : Nat} {Q : LV → Hp → Prop} {x1 x2 : Int} {h : Hp} (X : inI x1 → inI x2 → L0 g d m9_at Q 0 [some (LR 9 4), some (LI x1), some (LI x2), none] h) : Good g (d + 1) i9_at [LR 9 4, LI x1, LI x2] S0 h S0 Q := Good.body (M := m9_at) k9_at (Int.le_refl _) (Nat.le_of_ble_eq_true rfl) (fun hok => X (hok _ (List.mem_cons_of_mem _ List.mem_cons_self)) (hok _ (List.mem_cons_of_mem _ (List.mem_cons_of_mem _ List.mem_cons_self))))
set_option maxRecDepth 20000 in
theorem v9_found {g : Gl} {d : Nat} {Q : Int → Hp → Prop} {x1 x2 : Int} {h : Hp} (v0 : Good g d i9_patternOf [LR 9 4, LI x1] S0 h S0 (retR 6 (fun r3 h1 =>
 ((¬ r3 = 0 → Good g d i1_nodeFound [LR 1 603, LR 6 r3, LI x2] S0 h1 S0 (retI (fun r7 h5 =>
 Q r7 h5))) ∧
 (r3 = 0 → Q (-1001) h1))))) : L0 g d m9_found (retI Q) 0 [some (LR 9 4), some (LI x1), some (LI x2), none] h :=
 LW.run 40 [] k9_found (And.intro (show (4 : Int) ≠ 0 by decide) (And.intro (Int.le_refl _) (Good.mR v0 (fun r3 h1 v2 => And.intro (fun c4 => And.intro (show (4 : Int) ≠ 0 by decide) (And.intro (show (603 : Int) ≠ 0 by decide) (And.intro (Int.le_refl _) (Good.mI (v2.1 c4) (fun r7 h5 v6 => And.intro rfl v6))))) (fun c4 => And.intro rfl (v2.2 c4))))))
theorem g9_found {g : Gl} {d : Nat} {Q : LV → Hp → Prop} {x1 x2 : Int} {h : Hp} (X : inI x1 → inI x2 → L0 g d m9_found Q 0 [some (LR 9 4), some (LI x1), some (LI x2), none] h) : Good g (d + 1) i9_found [LR 9 4, LI x1, LI x2] S0 h S0 Q := Good.body (M := m9_found) k9_found (Int.le_refl _) (Nat.le_of_ble_eq_true rfl) (fun hok => X (hok _ (List.mem_cons_of_mem _ List.mem_cons_self)) (hok _ (List.mem_cons_of_mem _ (List.mem_cons_of_mem _ List.mem_cons_self))))
set_option maxRecDepth 20000 in
theorem v9_looks {g : Gl} {d : Nat} {Q : Int → Hp → Prop} {x1 : Int} {h : Hp} (v0 : ((x1 < 0 → Q (-1002) h) ∧
 (¬ x1 < 0 → ((x1 ≤ 1 → ((¬ (h 14 9) = 0 → ((¬ x1 = 0 → Good g d i4_looksAtTree [LR 4 605, LI 0] S0 h S0 (retI (fun r7 h5 =>
 Q r7 h5))) ∧
 (x1 = 0 → Good g d i4_looksAtTree [LR 4 605, LI 1] S0 h S0 (retI (fun r10 h8 =>
 Q r10 h8))))) ∧
 ((h 14 9) = 0 → Q (-1003) h))) ∧
 (¬ x1 ≤ 1 → Q (-1002) h))))) : L0 g d m9_looks (retI Q) 0 [some (LR 9 4), some (LI x1)] h :=
 LW.run 40 [] k9_looks (And.intro (fun c1 => And.intro rfl (v0.1 c1)) (fun c1 => And.intro (fun c2 => And.intro (show (4 : Int) ≠ 0 by decide) (And.intro (show (14 : Int) ≠ 0 by decide) (And.intro (fun c3 => And.intro (show (4 : Int) ≠ 0 by decide) (And.intro (fun c4 => And.intro (show (605 : Int) ≠ 0 by decide) (And.intro (Int.le_refl _) (Good.mI ((((v0.2 c1).1 c2).1 c3).1 c4) (fun r7 h5 v6 => And.intro rfl v6)))) (fun c4 => And.intro (show (605 : Int) ≠ 0 by decide) (And.intro (Int.le_refl _) (Good.mI ((((v0.2 c1).1 c2).1 c3).2 c4) (fun r10 h8 v9 => And.intro rfl v9)))))) (fun c3 => And.intro rfl (((v0.2 c1).1 c2).2 c3))))) (fun c2 => And.intro rfl ((v0.2 c1).2 c2))))
theorem g9_looks {g : Gl} {d : Nat} {Q : LV → Hp → Prop} {x1 : Int} {h : Hp} (X : inI x1 → L0 g d m9_looks Q 0 [some (LR 9 4), some (LI x1)] h) : Good g (d + 1) i9_looks [LR 9 4, LI x1] S0 h S0 Q := Good.body (M := m9_looks) k9_looks (Int.le_refl _) (Nat.le_of_ble_eq_true rfl) (fun hok => X (hok _ (List.mem_cons_of_mem _ List.mem_cons_self)))
set_option maxRecDepth 20000 in
theorem v9_parts {g : Gl} {d : Nat} {Q : Int → Hp → Prop} {x1 x2 : Int} {h : Hp} (v0 : Good g d i9_patternOf [LR 9 4, LI x1] S0 h S0 (retR 6 (fun r3 h1 =>
 ((¬ r3 = 0 → ((x2 < 0 → Q (-1002) h1) ∧
 (¬ x2 < 0 → ((x2 ≤ 1 → Good g d i6_isInNet [LR 6 r3] S0 h1 S0 (retI (fun r9 h7 =>
 ((r9 = 0 → Q (-1003) h7) ∧
 (¬ r9 = 0 → ((¬ (h7 14 9) = 0 → Good g d i4_marksThatGo [LR 4 605, LR 6 r3] S0 h7 S0 (retI (fun r14 h12 =>
 (r3 + 1) ≠ 0 ∧ ((r14 < (h12 (r3 + 1) 9) → ((¬ x2 = 0 → Q (h12 605 4) h12) ∧
 (x2 = 0 → Q r14 h12))) ∧
 (¬ r14 < (h12 (r3 + 1) 9) → Q (-1) h12))))) ∧
 ((h7 14 9) = 0 → Q (-1003) h7))))))) ∧
 (¬ x2 ≤ 1 → Q (-1002) h1))))) ∧
 (r3 = 0 → Q (-1001) h1))))) : L0 g d m9_parts (retI Q) 0 [some (LR 9 4), some (LI x1), some (LI x2), none, none] h :=
 LW.run 40 [] k9_parts (And.intro (show (4 : Int) ≠ 0 by decide) (And.intro (Int.le_refl _) (Good.mR v0 (fun r3 h1 v2 => And.intro (fun c4 => And.intro (fun c5 => And.intro rfl ((v2.1 c4).1 c5)) (fun c5 => And.intro (fun c6 => And.intro c4 (And.intro (Int.le_refl _) (Good.mI (((v2.1 c4).2 c5).1 c6) (fun r9 h7 v8 => And.intro (fun c10 => And.intro rfl (v8.1 c10)) (fun c10 => And.intro (show (4 : Int) ≠ 0 by decide) (And.intro (show (14 : Int) ≠ 0 by decide) (And.intro (fun c11 => And.intro (show (4 : Int) ≠ 0 by decide) (And.intro (show (605 : Int) ≠ 0 by decide) (And.intro (Int.le_refl _) (Good.mI ((v8.2 c10).1 c11) (fun r14 h12 v13 => And.intro c4 (And.intro v13.1 (And.intro (fun c15 => And.intro (fun c16 => And.intro (show (4 : Int) ≠ 0 by decide) (And.intro (show (605 : Int) ≠ 0 by decide) (And.intro rfl ((v13.2.1 c15).1 c16)))) (fun c16 => And.intro rfl ((v13.2.1 c15).2 c16))) (fun c15 => And.intro rfl (v13.2.2 c15))))))))) (fun c11 => And.intro rfl ((v8.2 c10).2 c11))))))))) (fun c6 => And.intro rfl (((v2.1 c4).2 c5).2 c6)))) (fun c4 => And.intro rfl (v2.2 c4))))))
theorem g9_parts {g : Gl} {d : Nat} {Q : LV → Hp → Prop} {x1 x2 : Int} {h : Hp} (X : inI x1 → inI x2 → L0 g d m9_parts Q 0 [some (LR 9 4), some (LI x1), some (LI x2), none, none] h) : Good g (d + 1) i9_parts [LR 9 4, LI x1, LI x2] S0 h S0 Q := Good.body (M := m9_parts) k9_parts (Int.le_refl _) (Nat.le_of_ble_eq_true rfl) (fun hok => X (hok _ (List.mem_cons_of_mem _ List.mem_cons_self)) (hok _ (List.mem_cons_of_mem _ (List.mem_cons_of_mem _ List.mem_cons_self))))
set_option maxRecDepth 20000 in
theorem v9_shared {g : Gl} {d : Nat} {Q : Int → Hp → Prop} {x1 x2 : Int} {h : Hp} (v0 : Good g d i9_patternOf [LR 9 4, LI x1] S0 h S0 (retR 6 (fun r3 h1 =>
 Good g d i9_patternOf [LR 9 4, LI x2] S0 h1 S0 (retR 6 (fun r6 h4 =>
 ((r3 = 0 → Q (-1001) h4) ∧
 (¬ r3 = 0 → ((¬ r6 = 0 → Good g d i6_isInNet [LR 6 r3] S0 h4 S0 (retI (fun r11 h9 =>
 ((r11 = 0 → Q (-1003) h9) ∧
 (¬ r11 = 0 → Good g d i6_isInNet [LR 6 r6] S0 h9 S0 (retI (fun r15 h13 =>
 ((¬ r15 = 0 → Good g d i4_likeMarks [LR 4 605, LR 6 r3, LR 6 r6] S0 h13 S0 (retI (fun r19 h17 =>
 Q r19 h17))) ∧
 (r15 = 0 → Q (-1003) h13))))))))) ∧
 (r6 = 0 → Q (-1001) h4))))))))) : L0 g d m9_shared (retI Q) 0 [some (LR 9 4), some (LI x1), some (LI x2), none, none] h :=
 LW.run 40 [] k9_shared (And.intro (show (4 : Int) ≠ 0 by decide) (And.intro (Int.le_refl _) (Good.mR v0 (fun r3 h1 v2 => And.intro (show (4 : Int) ≠ 0 by decide) (And.intro (Int.le_refl _) (Good.mR v2 (fun r6 h4 v5 => And.intro (fun c7 => And.intro rfl (v5.1 c7)) (fun c7 => And.intro (fun c8 => And.intro c7 (And.intro (Int.le_refl _) (Good.mI ((v5.2 c7).1 c8) (fun r11 h9 v10 => And.intro (fun c12 => And.intro rfl (v10.1 c12)) (fun c12 => And.intro c8 (And.intro (Int.le_refl _) (Good.mI (v10.2 c12) (fun r15 h13 v14 => And.intro (fun c16 => And.intro (show (4 : Int) ≠ 0 by decide) (And.intro (show (605 : Int) ≠ 0 by decide) (And.intro (Int.le_refl _) (Good.mI (v14.1 c16) (fun r19 h17 v18 => And.intro rfl v18))))) (fun c16 => And.intro rfl (v14.2 c16)))))))))) (fun c8 => And.intro rfl ((v5.2 c7).2 c8))))))))))
theorem g9_shared {g : Gl} {d : Nat} {Q : LV → Hp → Prop} {x1 x2 : Int} {h : Hp} (X : inI x1 → inI x2 → L0 g d m9_shared Q 0 [some (LR 9 4), some (LI x1), some (LI x2), none, none] h) : Good g (d + 1) i9_shared [LR 9 4, LI x1, LI x2] S0 h S0 Q := Good.body (M := m9_shared) k9_shared (Int.le_refl _) (Nat.le_of_ble_eq_true rfl) (fun hok => X (hok _ (List.mem_cons_of_mem _ List.mem_cons_self)) (hok _ (List.mem_cons_of_mem _ (List.mem_cons_of_mem _ List.mem_cons_self))))
set_option maxRecDepth 20000 in
theorem v9_clash {g : Gl} {d : Nat} {Q : Int → Hp → Prop} {x1 x2 : Int} {h : Hp} (v0 : Good g d i9_patternOf [LR 9 4, LI x1] S0 h S0 (retR 6 (fun r3 h1 =>
 Good g d i9_patternOf [LR 9 4, LI x2] S0 h1 S0 (retR 6 (fun r6 h4 =>
 ((r3 = 0 → Q (-1001) h4) ∧
 (¬ r3 = 0 → ((¬ r6 = 0 → Good g d i6_isInNet [LR 6 r3] S0 h4 S0 (retI (fun r11 h9 =>
 ((r11 = 0 → Q (-1003) h9) ∧
 (¬ r11 = 0 → Good g d i6_isInNet [LR 6 r6] S0 h9 S0 (retI (fun r15 h13 =>
 ((r15 = 0 → Q (-1003) h13) ∧
 (¬ r15 = 0 → Good g d i6_hasNameTwice [LR 6 r3] S0 h13 S0 (retI (fun r19 h17 =>
 ((¬ r19 = 0 → Q (-1003) h17) ∧
 (r19 = 0 → Good g d i6_hasNameTwice [LR 6 r6] S0 h17 S0 (retI (fun r23 h21 =>
 ((r23 = 0 → Good g d i4_haveTreeInCommon [LR 4 605, LR 5 (r3 + 1), LR 5 (r6 + 1)] S0 h21 S0 (retI (fun r27 h25 =>
 Good g d i9_asInt [LI r27] S0 h25 S0 (retI (fun r30 h28 =>
 Q r30 h28))))) ∧
 (¬ r23 = 0 → Q (-1003) h21))))))))))))))))) ∧
 (r6 = 0 → Q (-1001) h4))))))))) : L0 g d m9_clash (retI Q) 0 [some (LR 9 4), some (LI x1), some (LI x2), none, none] h :=
 LW.run 40 [] k9_clash (And.intro (show (4 : Int) ≠ 0 by decide) (And.intro (Int.le_refl _) (Good.mR v0 (fun r3 h1 v2 => And.intro (show (4 : Int) ≠ 0 by decide) (And.intro (Int.le_refl _) (Good.mR v2 (fun r6 h4 v5 => And.intro (fun c7 => And.intro rfl (v5.1 c7)) (fun c7 => And.intro (fun c8 => And.intro c7 (And.intro (Int.le_refl _) (Good.mI ((v5.2 c7).1 c8) (fun r11 h9 v10 => And.intro (fun c12 => And.intro rfl (v10.1 c12)) (fun c12 => And.intro c8 (And.intro (Int.le_refl _) (Good.mI (v10.2 c12) (fun r15 h13 v14 => And.intro (fun c16 => And.intro rfl (v14.1 c16)) (fun c16 => And.intro c7 (And.intro (Int.le_refl _) (Good.mI (v14.2 c16) (fun r19 h17 v18 => And.intro (fun c20 => And.intro rfl (v18.1 c20)) (fun c20 => And.intro c8 (And.intro (Int.le_refl _) (Good.mI (v18.2 c20) (fun r23 h21 v22 => And.intro (fun c24 => And.intro (show (4 : Int) ≠ 0 by decide) (And.intro c7 (And.intro c8 (And.intro (show (605 : Int) ≠ 0 by decide) (And.intro (Int.le_refl _) (Good.mI (v22.1 c24) (fun r27 h25 v26 => And.intro (Int.le_refl _) (Good.mI v26 (fun r30 h28 v29 => And.intro rfl v29))))))))) (fun c24 => And.intro rfl (v22.2 c24)))))))))))))))))) (fun c8 => And.intro rfl ((v5.2 c7).2 c8))))))))))
theorem g9_clash {g : Gl} {d : Nat} {Q : LV → Hp → Prop} {x1 x2 : Int} {h : Hp} (X : inI x1 → inI x2 → L0 g d m9_clash Q 0 [some (LR 9 4), some (LI x1), some (LI x2), none, none] h) : Good g (d + 1) i9_clash [LR 9 4, LI x1, LI x2] S0 h S0 Q := Good.body (M := m9_clash) k9_clash (Int.le_refl _) (Nat.le_of_ble_eq_true rfl) (fun hok => X (hok _ (List.mem_cons_of_mem _ List.mem_cons_self)) (hok _ (List.mem_cons_of_mem _ (List.mem_cons_of_mem _ List.mem_cons_self))))
set_option maxRecDepth 20000 in
theorem v9_print {g : Gl} {d : Nat} {Q : Int → Hp → Prop} {x1 : Int} {h : Hp} (v0 : Good g d i9_patternOf [LR 9 4, LI x1] S0 h S0 (retR 6 (fun r3 h1 =>
 ((¬ r3 = 0 → Good g d i11_write [LR 5 (r3 + 1), LI 0, LR 8 12] S0 h1 S0 (retI (fun r7 h5 =>
 Q r7 h5))) ∧
 (r3 = 0 → Q (-1001) h1))))) : L0 g d m9_print (retI Q) 0 [some (LR 9 4), some (LI x1), none] h :=
 LW.run 40 [] k9_print (And.intro (show (4 : Int) ≠ 0 by decide) (And.intro (Int.le_refl _) (Good.mR v0 (fun r3 h1 v2 => And.intro (fun c4 => And.intro c4 (And.intro (show (4 : Int) ≠ 0 by decide) (And.intro (Int.le_refl _) (Good.mI (v2.1 c4) (fun r7 h5 v6 => And.intro rfl v6))))) (fun c4 => And.intro rfl (v2.2 c4))))))
theorem g9_print {g : Gl} {d : Nat} {Q : LV → Hp → Prop} {x1 : Int} {h : Hp} (X : inI x1 → L0 g d m9_print Q 0 [some (LR 9 4), some (LI x1), none] h) : Good g (d + 1) i9_print [LR 9 4, LI x1] S0 h S0 Q := Good.body (M := m9_print) k9_print (Int.le_refl _) (Nat.le_of_ble_eq_true rfl) (fun hok => X (hok _ (List.mem_cons_of_mem _ List.mem_cons_self)))
set_option maxRecDepth 20000 in
theorem v9_printNode {g : Gl} {d : Nat} {Q : Int → Hp → Prop} {x1 : Int} {h : Hp} (v0 : Good g d i5_has [LR 5 14, LI x1] S0 h S0 (retI (fun r3 h1 =>
 ((¬ r3 = 0 → Good g d i11_write [LR 5 14, LI x1, LR 8 12] S0 h1 S0 (retI (fun r7 h5 =>
 Q r7 h5))) ∧
 (r3 = 0 → Q (-1001) h1))))) : L0 g d m9_printNode (retI Q) 0 [some (LR 9 4), some (LI x1)] h :=
 LW.run 40 [] k9_printNode (And.intro (show (4 : Int) ≠ 0 by decide) (And.intro (show (14 : Int) ≠ 0 by decide) (And.intro (Int.le_refl _) (Good.mI v0 (fun r3 h1 v2 => And.intro (fun c4 => And.intro (show (4 : Int) ≠ 0 by decide) (And.intro (show (4 : Int) ≠ 0 by decide) (And.intro (Int.le_refl _) (Good.mI (v2.1 c4) (fun r7 h5 v6 => And.intro rfl v6))))) (fun c4 => And.intro rfl (v2.2 c4)))))))
theorem g9_printNode {g : Gl} {d : Nat} {Q : LV → Hp → Prop} {x1 : Int} {h : Hp} (X : inI x1 → L0 g d m9_printNode Q 0 [some (LR 9 4), some (LI x1)] h) : Good g (d + 1) i9_printNode [LR 9 4, LI x1] S0 h S0 Q := Good.body (M := m9_printNode) k9_printNode (Int.le_refl _) (Nat.le_of_ble_eq_true rfl) (fun hok => X (hok _ (List.mem_cons_of_mem _ List.mem_cons_self)))
set_option maxRecDepth 20000 in
theorem v9_out {g : Gl} {d : Nat} {Q : Int → Hp → Prop} {x1 : Int} {h : Hp} (v0 : Good g d i8_byteAt [LR 8 12, LI x1] S0 h S0 (retI (fun r3 h1 =>
 Q r3 h1))) : L0 g d m9_out (retI Q) 0 [some (LR 9 4), some (LI x1)] h :=
 LW.run 40 [] k9_out (And.intro (show (4 : Int) ≠ 0 by decide) (And.intro (show (12 : Int) ≠ 0 by decide) (And.intro (Int.le_refl _) (Good.mI v0 (fun r3 h1 v2 => And.intro rfl v2)))))
theorem g9_out {g : Gl} {d : Nat} {Q : LV → Hp → Prop} {x1 : Int} {h : Hp} (X : inI x1 → L0 g d m9_out Q 0 [some (LR 9 4), some (LI x1)] h) : Good g (d + 1) i9_out [LR 9 4, LI x1] S0 h S0 Q := Good.body (M := m9_out) k9_out (Int.le_refl _) (Nat.le_of_ble_eq_true rfl) (fun hok => X (hok _ (List.mem_cons_of_mem _ List.mem_cons_self)))
set_option maxRecDepth 20000 in
theorem v9_back {g : Gl} {d : Nat} {Q : Int → Hp → Prop} {h : Hp} (v0 : ∀ h1 : Hp, h1 = hup h 10 1 0 →
 L0 g d m9_back (retI Q) 10 [some (LR 9 4), some (LI 0)] h1) : L0 g d m9_back (retI Q) 0 [some (LR 9 4), none] h :=
 LW.run 40 [(10, [true, true])] k9_back (And.intro (show (4 : Int) ≠ 0 by decide) (And.intro (show (10 : Int) ≠ 0 by decide) ((v0 _ rfl))))
set_option maxRecDepth 20000 in
theorem v9_back_10 {g : Gl} {d : Nat} {Q : Int → Hp → Prop} {y1 : Int} {h : Hp} (v0 : (((h 12 1) ≤ y1 → Q (h 10 1) h) ∧
 (¬ (h 12 1) ≤ y1 → ((1000 ≤ y1 → Q (h 10 1) h) ∧
 (¬ 1000 ≤ y1 → Good g d i8_byteAt [LR 8 12, LI y1] S0 h S0 (retI (fun r5 h3 =>
 Good g d i8_add [LR 8 10, LI r5] S0 h3 S0 (retV (fun h6 =>
 L0 g d m9_back (retI Q) 10 [some (LR 9 4), some (LI (w32 (y1 + 1)))] h6))))))))) : L0 g d m9_back (retI Q) 10 [some (LR 9 4), some (LI y1)] h :=
 LW.run 40 [(10, [true, true])] k9_back (And.intro (show (4 : Int) ≠ 0 by decide) (And.intro (show (12 : Int) ≠ 0 by decide) (And.intro (fun c1 => And.intro (show (4 : Int) ≠ 0 by decide) (And.intro (show (10 : Int) ≠ 0 by decide) (And.intro rfl (v0.1 c1)))) (fun c1 => And.intro (fun c2 => And.intro (show (4 : Int) ≠ 0 by decide) (And.intro (show (10 : Int) ≠ 0 by decide) (And.intro rfl ((v0.2 c1).1 c2)))) (fun c2 => And.intro (show (4 : Int) ≠ 0 by decide) (And.intro (show (4 : Int) ≠ 0 by decide) (And.intro (show (12 : Int) ≠ 0 by decide) (And.intro (Int.le_refl _) (Good.mI ((v0.2 c1).2 c2) (fun r5 h3 v4 => And.intro (show (10 : Int) ≠ 0 by decide) (And.intro (Int.le_refl _) (Good.mV v4 (fun h6 v7 => v7)))))))))))))
theorem g9_back {g : Gl} {d : Nat} {Q : LV → Hp → Prop} {h : Hp} (X : L0 g d m9_back Q 0 [some (LR 9 4), none] h) : Good g (d + 1) i9_back [LR 9 4] S0 h S0 Q := Good.body (M := m9_back) k9_back (Int.le_refl _) (Nat.le_of_ble_eq_true rfl) (fun hok => X )
set_option maxRecDepth 20000 in
theorem v9_asInt {g : Gl} {d : Nat} {Q : Int → Hp → Prop} {x0 : Int} {h : Hp} (v0 : ((x0 = 0 → Q 0 h) ∧
 (¬ x0 = 0 → Q 1 h))) : L0 g d m9_asInt (retI Q) 0 [some (LI x0)] h :=
 LW.run 40 [] k9_asInt (And.intro (fun c1 => And.intro rfl (v0.1 c1)) (fun c1 => And.intro rfl (v0.2 c1)))
theorem g9_asInt {g : Gl} {d : Nat} {Q : LV → Hp → Prop} {x0 : Int} {h : Hp} (X : inI x0 → L0 g d m9_asInt Q 0 [some (LI x0)] h) : Good g (d + 1) i9_asInt [LI x0] S0 h S0 Q := Good.body (M := m9_asInt) k9_asInt (Int.le_refl _) (Nat.le_of_ble_eq_true rfl) (fun hok => X (hok _ List.mem_cons_self))
set_option maxRecDepth 20000 in
theorem v9_patternOf {g : Gl} {d : Nat} {Q : Int → Hp → Prop} {x1 : Int} {h : Hp} (v0 : ((x1 < 0 → Q 0 h) ∧
 (¬ x1 < 0 → ((40 ≤ x1 → Q 0 h) ∧
 (¬ 40 ≤ x1 → 0 ≤ x1 ∧ x1 < 40 ∧ (((h (35 + 14 * x1) 3) = 0 ∨ (h (35 + 14 * x1) 3) = 1) → (((h (35 + 14 * x1) 3) = 0 → Q 0 h) ∧
 (¬ (h (35 + 14 * x1) 3) = 0 → Q (35 + 14 * x1) h)))))))) : L0 g d m9_patternOf (retR 6 Q) 0 [some (LR 9 4), some (LI x1)] h :=
 LW.run 40 [] k9_patternOf (And.intro (fun c1 => And.intro rfl (And.intro rfl (And.intro rfl (v0.1 c1)))) (fun c1 => And.intro (fun c2 => And.intro rfl (And.intro rfl (And.intro rfl ((v0.2 c1).1 c2)))) (fun c2 => And.intro (show (4 : Int) ≠ 0 by decide) (And.intro (show (34 : Int) ≠ 0 by decide) (And.intro ((v0.2 c1).2 c2).1 (And.intro ((v0.2 c1).2 c2).2.1 (And.intro (show (35 + 14 * x1) ≠ 0 from z14 ((v0.2 c1).2 c2).1) (fun c3 => And.intro (fun c4 => And.intro rfl (And.intro rfl (And.intro rfl ((((v0.2 c1).2 c2).2.2 c3).1 c4)))) (fun c4 => And.intro (show (4 : Int) ≠ 0 by decide) (And.intro (show (34 : Int) ≠ 0 by decide) (And.intro ((v0.2 c1).2 c2).1 (And.intro ((v0.2 c1).2 c2).2.1 (And.intro rfl (And.intro rfl ((((v0.2 c1).2 c2).2.2 c3).2 c4)))))))))))))))
theorem g9_patternOf {g : Gl} {d : Nat} {Q : LV → Hp → Prop} {x1 : Int} {h : Hp} (X : inI x1 → L0 g d m9_patternOf Q 0 [some (LR 9 4), some (LI x1)] h) : Good g (d + 1) i9_patternOf [LR 9 4, LI x1] S0 h S0 Q := Good.body (M := m9_patternOf) k9_patternOf (Int.le_refl _) (Nat.le_of_ble_eq_true rfl) (fun hok => X (hok _ (List.mem_cons_of_mem _ List.mem_cons_self)))
set_option maxRecDepth 20000 in
theorem v9_freeNumber {g : Gl} {d : Nat} {Q : Int → Hp → Prop} {h : Hp} (v0 : L0 g d m9_freeNumber (retI Q) 2 [some (LR 9 4), some (LI 0)] h) : L0 g d m9_freeNumber (retI Q) 0 [some (LR 9 4), none] h :=
 LW.run 40 [(2, [true, true])] k9_freeNumber (v0)
set_option maxRecDepth 20000 in
theorem v9_freeNumber_2 {g : Gl} {d : Nat} {Q : Int → Hp → Prop} {y1 : Int} {h : Hp} (v0 : ((40 ≤ y1 → Q (-1) h) ∧
 (¬ 40 ≤ y1 → 0 ≤ y1 ∧ y1 < 40 ∧ (((h (35 + 14 * y1) 3) = 0 ∨ (h (35 + 14 * y1) 3) = 1) → ((¬ (h (35 + 14 * y1) 3) = 0 → L0 g d m9_freeNumber (retI Q) 2 [some (LR 9 4), some (LI (w32 (y1 + 1)))] h) ∧
 ((h (35 + 14 * y1) 3) = 0 → Q y1 h)))))) : L0 g d m9_freeNumber (retI Q) 2 [some (LR 9 4), some (LI y1)] h :=
 LW.run 40 [(2, [true, true])] k9_freeNumber (And.intro (fun c1 => And.intro rfl (v0.1 c1)) (fun c1 => And.intro (show (4 : Int) ≠ 0 by decide) (And.intro (show (34 : Int) ≠ 0 by decide) (And.intro (v0.2 c1).1 (And.intro (v0.2 c1).2.1 (And.intro (show (35 + 14 * y1) ≠ 0 from z14 (v0.2 c1).1) (fun c2 => And.intro (fun c3 => (((v0.2 c1).2.2 c2).1 c3)) (fun c3 => And.intro rfl (((v0.2 c1).2.2 c2).2 c3)))))))))
theorem g9_freeNumber {g : Gl} {d : Nat} {Q : LV → Hp → Prop} {h : Hp} (X : L0 g d m9_freeNumber Q 0 [some (LR 9 4), none] h) : Good g (d + 1) i9_freeNumber [LR 9 4] S0 h S0 Q := Good.body (M := m9_freeNumber) k9_freeNumber (Int.le_refl _) (Nat.le_of_ble_eq_true rfl) (fun hok => X )
set_option maxRecDepth 20000 in
theorem v9_presentPatterns {g : Gl} {d : Nat} {Q : Int → Hp → Prop} {h : Hp} (v0 : L0 g d m9_presentPatterns (retI Q) 4 [some (LR 9 4), some (LI 0), some (LI 0)] h) : L0 g d m9_presentPatterns (retI Q) 0 [some (LR 9 4), none, none] h :=
 LW.run 40 [(4, [true, true, true])] k9_presentPatterns (v0)
set_option maxRecDepth 20000 in
theorem v9_presentPatterns_4 {g : Gl} {d : Nat} {Q : Int → Hp → Prop} {y1 y2 : Int} {h : Hp} (v0 : ((40 ≤ y2 → Q y1 h) ∧
 (¬ 40 ≤ y2 → 0 ≤ y2 ∧ y2 < 40 ∧ (((h (35 + 14 * y2) 3) = 0 ∨ (h (35 + 14 * y2) 3) = 1) → Good g d i9_asInt [LI (h (35 + 14 * y2) 3)] S0 h S0 (retI (fun r5 h3 =>
 L0 g d m9_presentPatterns (retI Q) 4 [some (LR 9 4), some (LI (w32 (y1 + r5))), some (LI (w32 (y2 + 1)))] h3)))))) : L0 g d m9_presentPatterns (retI Q) 4 [some (LR 9 4), some (LI y1), some (LI y2)] h :=
 LW.run 40 [(4, [true, true, true])] k9_presentPatterns (And.intro (fun c1 => And.intro rfl (v0.1 c1)) (fun c1 => And.intro (show (4 : Int) ≠ 0 by decide) (And.intro (show (34 : Int) ≠ 0 by decide) (And.intro (v0.2 c1).1 (And.intro (v0.2 c1).2.1 (And.intro (show (35 + 14 * y2) ≠ 0 from z14 (v0.2 c1).1) (fun c2 => And.intro (Int.le_refl _) (Good.mI ((v0.2 c1).2.2 c2) (fun r5 h3 v4 => v4)))))))))
theorem g9_presentPatterns {g : Gl} {d : Nat} {Q : LV → Hp → Prop} {h : Hp} (X : L0 g d m9_presentPatterns Q 0 [some (LR 9 4), none, none] h) : Good g (d + 1) i9_presentPatterns [LR 9 4] S0 h S0 Q := Good.body (M := m9_presentPatterns) k9_presentPatterns (Int.le_refl _) (Nat.le_of_ble_eq_true rfl) (fun hok => X )
set_option maxRecDepth 20000 in
theorem v9_forgetAnswers {g : Gl} {d : Nat} {Q : Hp → Prop} {h : Hp} (v0 : ∀ h1 : Hp, h1 = hup h 4 13 0 →
 ∀ h2 : Hp, h2 = hup h1 603 6 0 →
 Q h2) : L0 g d m9_forgetAnswers (retV Q) 0 [some (LR 9 4)] h :=
 LW.run 40 [] k9_forgetAnswers (And.intro (show (4 : Int) ≠ 0 by decide) (And.intro (Or.inl rfl) (And.intro (show (4 : Int) ≠ 0 by decide) (And.intro (show (603 : Int) ≠ 0 by decide) (And.intro rfl (And.intro rfl ((v0 _ rfl) _ rfl)))))))
theorem g9_forgetAnswers {g : Gl} {d : Nat} {Q : LV → Hp → Prop} {h : Hp} (X : L0 g d m9_forgetAnswers Q 0 [some (LR 9 4)] h) : Good g (d + 1) i9_forgetAnswers [LR 9 4] S0 h S0 Q := Good.body (M := m9_forgetAnswers) k9_forgetAnswers (Int.le_refl _) (Nat.le_of_ble_eq_true rfl) (fun hok => X )
set_option maxRecDepth 20000 in
theorem v9_replaceInTree {g : Gl} {d : Nat} {Q : Int → Hp → Prop} {x1 x2 : Int} {h : Hp} (v0 : Good g d i7_read [LR 7 597, LI 0, LI (w32 (120 - (w32 ((h 14 9) - x2))))] S0 h S0 (retI (fun r3 h1 =>
 ((r3 = 0 → Good g d i5_replace [LR 5 14, LI x1, LI x2, LR 5 24] S0 h1 S0 (retV (fun h5 =>
 Good g d i5_link [LR 5 14, LR 2 5] S0 h5 S0 (retV (fun h7 =>
 Good g d i9_forgetAnswers [LR 9 4] S0 h7 S0 (retV (fun h9 =>
 Q (h9 14 9) h9))))))) ∧
 (¬ r3 = 0 → Q (w32 ((-10) - r3)) h1))))) : L0 g d m9_replaceInTree (retI Q) 0 [some (LR 9 4), some (LI x1), some (LI x2), none] h :=
 LW.run 40 [] k9_replaceInTree (And.intro (show (4 : Int) ≠ 0 by decide) (And.intro (show (4 : Int) ≠ 0 by decide) (And.intro (show (14 : Int) ≠ 0 by decide) (And.intro (show (597 : Int) ≠ 0 by decide) (And.intro (Int.le_refl _) (Good.mI v0 (fun r3 h1 v2 => And.intro (fun c4 => And.intro (show (4 : Int) ≠ 0 by decide) (And.intro (show (4 : Int) ≠ 0 by decide) (And.intro (show (14 : Int) ≠ 0 by decide) (And.intro (Int.le_refl _) (Good.mV (v2.1 c4) (fun h5 v6 => And.intro (show (4 : Int) ≠ 0 by decide) (And.intro (show (4 : Int) ≠ 0 by decide) (And.intro (show (14 : Int) ≠ 0 by decide) (And.intro (Int.le_refl _) (Good.mV v6 (fun h7 v8 => And.intro (show (4 : Int) ≠ 0 by decide) (And.intro (Int.le_refl _) (Good.mV v8 (fun h9 v10 => And.intro (show (4 : Int) ≠ 0 by decide) (And.intro (show (14 : Int) ≠ 0 by decide) (And.intro rfl v10)))))))))))))))) (fun c4 => And.intro rfl (v2.2 c4)))))))))
theorem g9_replaceInTree {g : Gl} {d : Nat} {Q : LV → Hp → Prop} {x1 x2 : Int} {h : Hp} (X : inI x1 → inI x2 → L0 g d m9_replaceInTree Q 0 [some (LR 9 4), some (LI x1), some (LI x2), none] h) : Good g (d + 1) i9_replaceInTree [LR 9 4, LI x1, LI x2] S0 h S0 Q := Good.body (M := m9_replaceInTree) k9_replaceInTree (Int.le_refl _) (Nat.le_of_ble_eq_true rfl) (fun hok => X (hok _ (List.mem_cons_of_mem _ List.mem_cons_self)) (hok _ (List.mem_cons_of_mem _ (List.mem_cons_of_mem _ List.mem_cons_self))))
set_option maxRecDepth 20000 in
theorem v9_askAll {g : Gl} {d : Nat} {Q : Hp → Prop} {h : Hp} (v0 : ∀ h1 : Hp, h1 = hup h 4 12 0 →
 L0 g d m9_askAll (retV Q) 7 [some (LR 9 4), some (LI 0)] h1) : L0 g d m9_askAll (retV Q) 0 [some (LR 9 4), none] h :=
 LW.run 40 [(7, [true, true])] k9_askAll (And.intro (show (4 : Int) ≠ 0 by decide) ((v0 _ rfl)))
set_option maxRecDepth 20000 in
theorem v9_askAll_7 {g : Gl} {d : Nat} {Q : Hp → Prop} {y1 : Int} {h : Hp} (v0 : ((40 ≤ y1 → ∀ h2 : Hp, h2 = hup h 4 13 1 →
 Q h2) ∧
 (¬ 40 ≤ y1 → 0 ≤ y1 ∧ y1 < 40 ∧ (((h (35 + 14 * y1) 3) = 0 ∨ (h (35 + 14 * y1) 3) = 1) → (((h (35 + 14 * y1) 3) = 0 → L0 g d m9_askAll (retV Q) 7 [some (LR 9 4), some (LI (w32 (y1 + 1)))] h) ∧
 (¬ (h (35 + 14 * y1) 3) = 0 → Good g d i3_run [LR 3 598, LR 6 (35 + 14 * y1), LI 0, LR 0 ((35 + 14 * y1) + 12), LI 0] S0 h S0 (retV (fun h5 =>
 (((35 + 14 * y1) + 12)) ≠ 0 ∧ (((h5 ((35 + 14 * y1) + 12) 1) ≤ 0 → L0 g d m9_askAll (retV Q) 7 [some (LR 9 4), some (LI (w32 (y1 + 1)))] h5) ∧
 (¬ (h5 ((35 + 14 * y1) + 12) 1) ≤ 0 → Good g d i9_addFitting [LR 9 4, LI y1] S0 h5 S0 (retV (fun h8 =>
 L0 g d m9_askAll (retV Q) 7 [some (LR 9 4), some (LI (w32 (y1 + 1)))] h8)))))))))))) : L0 g d m9_askAll (retV Q) 7 [some (LR 9 4), some (LI y1)] h :=
 LW.run 40 [(7, [true, true])] k9_askAll (And.intro (fun c1 => And.intro (show (4 : Int) ≠ 0 by decide) (And.intro (Or.inr rfl) (And.intro rfl ((v0.1 c1) _ rfl)))) (fun c1 => And.intro (show (4 : Int) ≠ 0 by decide) (And.intro (show (34 : Int) ≠ 0 by decide) (And.intro (v0.2 c1).1 (And.intro (v0.2 c1).2.1 (And.intro (show (35 + 14 * y1) ≠ 0 from z14 (v0.2 c1).1) (fun c3 => And.intro (fun c4 => (((v0.2 c1).2.2 c3).1 c4)) (fun c4 => And.intro (show (4 : Int) ≠ 0 by decide) (And.intro (show (4 : Int) ≠ 0 by decide) (And.intro (show (34 : Int) ≠ 0 by decide) (And.intro (v0.2 c1).1 (And.intro (v0.2 c1).2.1 (And.intro (show (4 : Int) ≠ 0 by decide) (And.intro (show (34 : Int) ≠ 0 by decide) (And.intro (v0.2 c1).1 (And.intro (v0.2 c1).2.1 (And.intro (show (35 + 14 * y1) ≠ 0 from z14 (v0.2 c1).1) (And.intro (show (598 : Int) ≠ 0 by decide) (And.intro (Int.le_refl _) (Good.mV (((v0.2 c1).2.2 c3).2 c4) (fun h5 v6 => And.intro (show (4 : Int) ≠ 0 by decide) (And.intro (show (34 : Int) ≠ 0 by decide) (And.intro (v0.2 c1).1 (And.intro (v0.2 c1).2.1 (And.intro (show (35 + 14 * y1) ≠ 0 from z14 (v0.2 c1).1) (And.intro v6.1 (And.intro (fun c7 => (v6.2.1 c7)) (fun c7 => And.intro (show (4 : Int) ≠ 0 by decide) (And.intro (Int.le_refl _) (Good.mV (v6.2.2 c7) (fun h8 v9 => v9)))))))))))))))))))))))))))))))
theorem g9_askAll {g : Gl} {d : Nat} {Q : LV → Hp → Prop} {h : Hp} (X : L0 g d m9_askAll Q 0 [some (LR 9 4), none] h) : Good g (d + 1) i9_askAll [LR 9 4] S0 h S0 Q := Good.body (M := m9_askAll) k9_askAll (Int.le_refl _) (Nat.le_of_ble_eq_true rfl) (fun hok => X )
set_option maxRecDepth 20000 in
theorem v9_addFitting {g : Gl} {d : Nat} {Q : Hp → Prop} {x1 : Int} {h : Hp} (v0 : L0 g d m9_addFitting (retV Q) 5 [some (LR 9 4), some (LI x1), some (LI (h 4 12))] h) : L0 g d m9_addFitting (retV Q) 0 [some (LR 9 4), some (LI x1), none] h :=
 LW.run 40 [(5, [true, true, true])] k9_addFitting (And.intro (show (4 : Int) ≠ 0 by decide) (v0))
set_option maxRecDepth 20000 in
theorem v9_addFitting_5 {g : Gl} {d : Nat} {Q : Hp → Prop} {x1 y2 : Int} {h : Hp} (v0 : ((y2 ≤ 0 → 0 ≤ y2 ∧ y2 < 40 ∧ ∀ h2 : Hp, h2 = hup h 607 y2 x1 →
 ∀ h3 : Hp, h3 = hup h2 4 12 (w32 ((h2 4 12) + 1)) →
 Q h3) ∧
 (¬ y2 ≤ 0 → 0 ≤ ((w32 (y2 - 1))) ∧ ((w32 (y2 - 1))) < 40 ∧ 0 ≤ ((h 607 (w32 (y2 - 1)))) ∧ ((h 607 (w32 (y2 - 1)))) < 40 ∧ ((35 + 14 * (h 607 (w32 (y2 - 1))))) ≠ 0 ∧ 0 ≤ x1 ∧ x1 < 40 ∧ (((h (35 + 14 * (h 607 (w32 (y2 - 1)))) 4) ≤ (h (35 + 14 * x1) 4) → 0 ≤ y2 ∧ y2 < 40 ∧ ∀ h5 : Hp, h5 = hup h 607 y2 x1 →
 ∀ h6 : Hp, h6 = hup h5 4 12 (w32 ((h5 4 12) + 1)) →
 Q h6) ∧
 (¬ (h (35 + 14 * (h 607 (w32 (y2 - 1)))) 4) ≤ (h (35 + 14 * x1) 4) → 0 ≤ y2 ∧ y2 < 40 ∧ ∀ h7 : Hp, h7 = hup h 607 y2 (h 607 (w32 (y2 - 1))) →
 L0 g d m9_addFitting (retV Q) 5 [some (LR 9 4), some (LI x1), some (LI (w32 (y2 + (-1))))] h7))))) : L0 g d m9_addFitting (retV Q) 5 [some (LR 9 4), some (LI x1), some (LI y2)] h :=
 LW.run 40 [(5, [true, true, true])] k9_addFitting (And.intro (fun c1 => And.intro (show (4 : Int) ≠ 0 by decide) (And.intro (show 4 ≤ (607 : Int) by decide) (And.intro (v0.1 c1).1 (And.intro (v0.1 c1).2.1 (And.intro (show (4 : Int) ≠ 0 by decide) (And.intro (show (4 : Int) ≠ 0 by decide) (And.intro rfl (((v0.1 c1).2.2 _ rfl) _ rfl)))))))) (fun c1 => And.intro (show (4 : Int) ≠ 0 by decide) (And.intro (show (4 : Int) ≠ 0 by decide) (And.intro (show (607 : Int) ≠ 0 by decide) (And.intro (v0.2 c1).1 (And.intro (v0.2 c1).2.1 (And.intro (show (34 : Int) ≠ 0 by decide) (And.intro (v0.2 c1).2.2.1 (And.intro (v0.2 c1).2.2.2.1 (And.intro (v0.2 c1).2.2.2.2.1 (And.intro (show (4 : Int) ≠ 0 by decide) (And.intro (show (34 : Int) ≠ 0 by decide) (And.intro (v0.2 c1).2.2.2.2.2.1 (And.intro (v0.2 c1).2.2.2.2.2.2.1 (And.intro (show (35 + 14 * x1) ≠ 0 from z14 (v0.2 c1).2.2.2.2.2.1) (And.intro (fun c4 => And.intro (show (4 : Int) ≠ 0 by decide) (And.intro (show 4 ≤ (607 : Int) by decide) (And.intro ((v0.2 c1).2.2.2.2.2.2.2.1 c4).1 (And.intro ((v0.2 c1).2.2.2.2.2.2.2.1 c4).2.1 (And.intro (show (4 : Int) ≠ 0 by decide) (And.intro (show (4 : Int) ≠ 0 by decide) (And.intro rfl ((((v0.2 c1).2.2.2.2.2.2.2.1 c4).2.2 _ rfl) _ rfl)))))))) (fun c4 => And.intro (show (4 : Int) ≠ 0 by decide) (And.intro (show (4 : Int) ≠ 0 by decide) (And.intro (show (607 : Int) ≠ 0 by decide) (And.intro (v0.2 c1).1 (And.intro (v0.2 c1).2.1 (And.intro (show 4 ≤ (607 : Int) by decide) (And.intro ((v0.2 c1).2.2.2.2.2.2.2.2 c4).1 (And.intro ((v0.2 c1).2.2.2.2.2.2.2.2 c4).2.1 ((((v0.2 c1).2.2.2.2.2.2.2.2 c4).2.2 _ rfl))))))))))))))))))))))))))
theorem g9_addFitting {g : Gl} {d : Nat} {Q : LV → Hp → Prop} {x1 : Int} {h : Hp} (X : inI x1 → L0 g d m9_addFitting Q 0 [some (LR 9 4), some (LI x1), none] h) : Good g (d + 1) i9_addFitting [LR 9 4, LI x1] S0 h S0 Q := Good.body (M := m9_addFitting) k9_addFitting (Int.le_refl _) (Nat.le_of_ble_eq_true rfl) (fun hok => X (hok _ (List.mem_cons_of_mem _ List.mem_cons_self)))
