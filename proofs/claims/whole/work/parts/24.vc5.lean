/-! what the stretches of methods come to (written by program, wip/whole/gen_vc.py) -/

set_option maxRecDepth 20000 in
theorem v10_in {g : Gl} {d : Nat} {Q : Int → Hp → Prop} {x0 x2 x4 : Int} {h : Hp} (v0 : (((lcmpI x0 x2) < 0 → Q 0 h) ∧
 (¬ (lcmpI x0 x2) < 0 → ((0 < (lcmpI x0 x4) → Q 0 h) ∧
 (¬ 0 < (lcmpI x0 x4) → Q 1 h))))) : L0 g d m10_in (retI Q) 0 [some (LL x0), none, some (LL x2), none, some (LL x4), none] h :=
 LW.run 40 [] k10_in (And.intro (fun c1 => And.intro (Or.inl rfl) (And.intro rfl (v0.1 c1))) (fun c1 => And.intro (fun c2 => And.intro (Or.inl rfl) (And.intro rfl ((v0.2 c1).1 c2))) (fun c2 => And.intro (Or.inr rfl) (And.intro rfl ((v0.2 c1).2 c2)))))
theorem g10_in {g : Gl} {d : Nat} {Q : LV → Hp → Prop} {x0 x2 x4 : Int} {h : Hp} (X : inL x0 → inL x2 → inL x4 → L0 g d m10_in Q 0 [some (LL x0), none, some (LL x2), none, some (LL x4), none] h) : Good g (d + 1) i10_in [LL x0, LL x2, LL x4] S0 h S0 Q := Good.body (M := m10_in) k10_in (Int.le_refl _) (Nat.le_of_ble_eq_true rfl) (fun hok => X (hok _ List.mem_cons_self) (hok _ (List.mem_cons_of_mem _ List.mem_cons_self)) (hok _ (List.mem_cons_of_mem _ (List.mem_cons_of_mem _ List.mem_cons_self))))
set_option maxRecDepth 20000 in
theorem v10_noKind {g : Gl} {d : Nat} {Q : Int → Hp → Prop} {x1 : Int} {h : Hp} (v0 : Good g d i10_in [LL x1, LL 0, LL (w32 ((h 608 0) - 1))] S0 h S0 (retI (fun r3 h1 =>
 ((¬ r3 = 0 → Q 0 h1) ∧
 (r3 = 0 → Q 1 h1))))) : L0 g d m10_noKind (retI Q) 0 [some (LR 10 608), some (LI x1)] h :=
 LW.run 40 [] k10_noKind (And.intro (show (608 : Int) ≠ 0 by decide) (And.intro (Int.le_refl _) (Good.mI v0 (fun r3 h1 v2 => And.intro (fun c4 => And.intro (Or.inl rfl) (And.intro rfl (v2.1 c4))) (fun c4 => And.intro (Or.inr rfl) (And.intro rfl (v2.2 c4)))))))
theorem g10_noKind {g : Gl} {d : Nat} {Q : LV → Hp → Prop} {x1 : Int} {h : Hp} (X : inI x1 → L0 g d m10_noKind Q 0 [some (LR 10 608), some (LI x1)] h) : Good g (d + 1) i10_noKind [LR 10 608, LI x1] S0 h S0 Q := Good.body (M := m10_noKind) k10_noKind (Int.le_refl _) (Nat.le_of_ble_eq_true rfl) (fun hok => X (hok _ (List.mem_cons_of_mem _ List.mem_cons_self)))
set_option maxRecDepth 20000 in
theorem v10_kind {g : Gl} {d : Nat} {Q : Int → Hp → Prop} {x1 : Int} {h : Hp} (v0 : Good g d i10_noKind [LR 10 608, LI x1] S0 h S0 (retI (fun r3 h1 =>
 ((r3 = 0 → ((¬ (h1 608 0) = 12 → 0 ≤ (h1 608 0) ∧ (h1 608 0) < 12 ∧ ∀ h6 : Hp, h6 = hup h1 609 (h1 608 0) x1 →
 ∀ h7 : Hp, h7 = hup h6 608 0 (w32 ((h6 608 0) + 1)) →
 Q (w32 ((h7 608 0) - 1)) h7) ∧
 ((h1 608 0) = 12 → Q (-1004) h1))) ∧
 (¬ r3 = 0 → Q (-1001) h1))))) : L0 g d m10_kind (retI Q) 0 [some (LR 10 608), some (LI x1)] h :=
 LW.run 40 [] k10_kind (And.intro (show (608 : Int) ≠ 0 by decide) (And.intro (Int.le_refl _) (Good.mI v0 (fun r3 h1 v2 => And.intro (fun c4 => And.intro (show (608 : Int) ≠ 0 by decide) (And.intro (fun c5 => And.intro (show (608 : Int) ≠ 0 by decide) (And.intro (show (608 : Int) ≠ 0 by decide) (And.intro (show 4 ≤ (609 : Int) by decide) (And.intro ((v2.1 c4).1 c5).1 (And.intro ((v2.1 c4).1 c5).2.1 (And.intro (show (608 : Int) ≠ 0 by decide) (And.intro (show (608 : Int) ≠ 0 by decide) (And.intro (show (608 : Int) ≠ 0 by decide) (And.intro rfl ((((v2.1 c4).1 c5).2.2 _ rfl) _ rfl)))))))))) (fun c5 => And.intro rfl ((v2.1 c4).2 c5)))) (fun c4 => And.intro rfl (v2.2 c4))))))
theorem g10_kind {g : Gl} {d : Nat} {Q : LV → Hp → Prop} {x1 : Int} {h : Hp} (X : inI x1 → L0 g d m10_kind Q 0 [some (LR 10 608), some (LI x1)] h) : Good g (d + 1) i10_kind [LR 10 608, LI x1] S0 h S0 Q := Good.body (M := m10_kind) k10_kind (Int.le_refl _) (Nat.le_of_ble_eq_true rfl) (fun hok => X (hok _ (List.mem_cons_of_mem _ List.mem_cons_self)))
set_option maxRecDepth 20000 in
theorem v10_lies {g : Gl} {d : Nat} {Q : Int → Hp → Prop} {x1 x2 : Int} {h : Hp} (v0 : L0 g d m10_lies (retI Q) 2 [some (LR 10 608), none, some (LI x2), some (LI x1)] h) : L0 g d m10_lies (retI Q) 0 [some (LR 10 608), some (LI x1), some (LI x2), none] h :=
 LW.run 40 [(2, [true, false, true, true])] k10_lies (v0)
set_option maxRecDepth 20000 in
theorem v10_lies_2 {g : Gl} {d : Nat} {Q : Int → Hp → Prop} {x2 y3 : Int} {h : Hp} (v0 : ((y3 = x2 → Q 1 h) ∧
 (¬ y3 = x2 → ((y3 = 0 → Q 0 h) ∧
 (¬ y3 = 0 → 0 ≤ y3 ∧ y3 < 12 ∧ L0 g d m10_lies (retI Q) 2 [some (LR 10 608), none, some (LI x2), some (LI (h 609 y3))] h))))) : L0 g d m10_lies (retI Q) 2 [some (LR 10 608), none, some (LI x2), some (LI y3)] h :=
 LW.run 40 [(2, [true, false, true, true])] k10_lies (And.intro (fun c1 => And.intro (fun z => absurd c1 z) (fun _ => And.intro (Or.inr rfl) (And.intro rfl (v0.1 c1)))) (fun c1 => And.intro (fun c2 => And.intro (fun _ => And.intro (Or.inl rfl) (And.intro rfl ((v0.2 c1).1 c2))) (fun z => absurd z c1)) (fun c2 => And.intro (show (608 : Int) ≠ 0 by decide) (And.intro (show (609 : Int) ≠ 0 by decide) (And.intro ((v0.2 c1).2 c2).1 (And.intro ((v0.2 c1).2 c2).2.1 (((v0.2 c1).2 c2).2.2)))))))
theorem g10_lies {g : Gl} {d : Nat} {Q : LV → Hp → Prop} {x1 x2 : Int} {h : Hp} (X : inI x1 → inI x2 → L0 g d m10_lies Q 0 [some (LR 10 608), some (LI x1), some (LI x2), none] h) : Good g (d + 1) i10_lies [LR 10 608, LI x1, LI x2] S0 h S0 Q := Good.body (M := m10_lies) k10_lies (Int.le_refl _) (Nat.le_of_ble_eq_true rfl) (fun hok => X (hok _ (List.mem_cons_of_mem _ List.mem_cons_self)) (hok _ (List.mem_cons_of_mem _ (List.mem_cons_of_mem _ List.mem_cons_self))))
set_option maxRecDepth 20000 in
theorem v10_isUnder {g : Gl} {d : Nat} {Q : Int → Hp → Prop} {x1 x2 : Int} {h : Hp} (v0 : Good g d i10_noKind [LR 10 608, LI x1] S0 h S0 (retI (fun r3 h1 =>
 ((¬ r3 = 0 → Q (-1001) h1) ∧
 (r3 = 0 → Good g d i10_noKind [LR 10 608, LI x2] S0 h1 S0 (retI (fun r7 h5 =>
 ((r7 = 0 → Good g d i10_lies [LR 10 608, LI x1, LI x2] S0 h5 S0 (retI (fun r11 h9 =>
 ((r11 = 0 → Q 0 h9) ∧
 (¬ r11 = 0 → Q 1 h9))))) ∧
 (¬ r7 = 0 → Q (-1001) h5))))))))) : L0 g d m10_isUnder (retI Q) 0 [some (LR 10 608), some (LI x1), some (LI x2)] h :=
 LW.run 40 [] k10_isUnder (And.intro (show (608 : Int) ≠ 0 by decide) (And.intro (Int.le_refl _) (Good.mI v0 (fun r3 h1 v2 => And.intro (fun c4 => And.intro rfl (v2.1 c4)) (fun c4 => And.intro (show (608 : Int) ≠ 0 by decide) (And.intro (Int.le_refl _) (Good.mI (v2.2 c4) (fun r7 h5 v6 => And.intro (fun c8 => And.intro (show (608 : Int) ≠ 0 by decide) (And.intro (Int.le_refl _) (Good.mI (v6.1 c8) (fun r11 h9 v10 => And.intro (fun c12 => And.intro rfl (v10.1 c12)) (fun c12 => And.intro rfl (v10.2 c12)))))) (fun c8 => And.intro rfl (v6.2 c8))))))))))
theorem g10_isUnder {g : Gl} {d : Nat} {Q : LV → Hp → Prop} {x1 x2 : Int} {h : Hp} (X : inI x1 → inI x2 → L0 g d m10_isUnder Q 0 [some (LR 10 608), some (LI x1), some (LI x2)] h) : Good g (d + 1) i10_isUnder [LR 10 608, LI x1, LI x2] S0 h S0 Q := Good.body (M := m10_isUnder) k10_isUnder (Int.le_refl _) (Nat.le_of_ble_eq_true rfl) (fun hok => X (hok _ (List.mem_cons_of_mem _ List.mem_cons_self)) (hok _ (List.mem_cons_of_mem _ (List.mem_cons_of_mem _ List.mem_cons_self))))
set_option maxRecDepth 20000 in
theorem v10_head {g : Gl} {d : Nat} {Q : Int → Hp → Prop} {x1 x2 x3 : Int} {h : Hp} (v0 : Good g d i10_noKind [LR 10 608, LI x1] S0 h S0 (retI (fun r3 h1 =>
 ((r3 = 0 → Good g d i10_in [LL x2, LL 0, LL 4] S0 h1 S0 (retI (fun r7 h5 =>
 ((¬ r7 = 0 → ((¬ (h5 608 2) = 20 → 0 ≤ (h5 608 2) ∧ (h5 608 2) < 20 ∧ ∀ h10 : Hp, h10 = hup h5 610 (h5 608 2) x1 →
 0 ≤ (h10 608 2) ∧ (h10 608 2) < 20 ∧ ∀ h11 : Hp, h11 = hup h10 611 (h10 608 2) x2 →
 0 ≤ (h11 608 2) ∧ (h11 608 2) < 20 ∧ (x3 = 0 ∨ x3 = 1) ∧ ∀ h12 : Hp, h12 = hup h11 612 (h11 608 2) x3 →
 ∀ h13 : Hp, h13 = hup h12 608 2 (w32 ((h12 608 2) + 1)) →
 Q (w32 ((h13 608 2) - 1)) h13) ∧
 ((h5 608 2) = 20 → Q (-1004) h5))) ∧
 (r7 = 0 → Q (-1002) h5))))) ∧
 (¬ r3 = 0 → Q (-1001) h1))))) : L0 g d m10_head (retI Q) 0 [some (LR 10 608), some (LI x1), some (LI x2), some (LI x3)] h :=
 LW.run 40 [] k10_head (And.intro (show (608 : Int) ≠ 0 by decide) (And.intro (Int.le_refl _) (Good.mI v0 (fun r3 h1 v2 => And.intro (fun c4 => And.intro (Int.le_refl _) (Good.mI (v2.1 c4) (fun r7 h5 v6 => And.intro (fun c8 => And.intro (show (608 : Int) ≠ 0 by decide) (And.intro (fun c9 => And.intro (show (608 : Int) ≠ 0 by decide) (And.intro (show (608 : Int) ≠ 0 by decide) (And.intro (show 4 ≤ (610 : Int) by decide) (And.intro ((v6.1 c8).1 c9).1 (And.intro ((v6.1 c8).1 c9).2.1 (And.intro (show (608 : Int) ≠ 0 by decide) (And.intro (show (608 : Int) ≠ 0 by decide) (And.intro (show 4 ≤ (611 : Int) by decide) (And.intro (((v6.1 c8).1 c9).2.2 _ rfl).1 (And.intro (((v6.1 c8).1 c9).2.2 _ rfl).2.1 (And.intro (show (608 : Int) ≠ 0 by decide) (And.intro (show (608 : Int) ≠ 0 by decide) (And.intro (show (612 : Int) ≠ 0 by decide) (And.intro ((((v6.1 c8).1 c9).2.2 _ rfl).2.2 _ rfl).1 (And.intro ((((v6.1 c8).1 c9).2.2 _ rfl).2.2 _ rfl).2.1 (And.intro ((((v6.1 c8).1 c9).2.2 _ rfl).2.2 _ rfl).2.2.1 (And.intro (show (608 : Int) ≠ 0 by decide) (And.intro (show (608 : Int) ≠ 0 by decide) (And.intro (show (608 : Int) ≠ 0 by decide) (And.intro rfl ((((((v6.1 c8).1 c9).2.2 _ rfl).2.2 _ rfl).2.2.2 _ rfl) _ rfl))))))))))))))))))))) (fun c9 => And.intro rfl ((v6.1 c8).2 c9)))) (fun c8 => And.intro rfl (v6.2 c8))))) (fun c4 => And.intro rfl (v2.2 c4))))))
theorem g10_head {g : Gl} {d : Nat} {Q : LV → Hp → Prop} {x1 x2 x3 : Int} {h : Hp} (X : inI x1 → inI x2 → inI x3 → L0 g d m10_head Q 0 [some (LR 10 608), some (LI x1), some (LI x2), some (LI x3)] h) : Good g (d + 1) i10_head [LR 10 608, LI x1, LI x2, LI x3] S0 h S0 Q := Good.body (M := m10_head) k10_head (Int.le_refl _) (Nat.le_of_ble_eq_true rfl) (fun hok => X (hok _ (List.mem_cons_of_mem _ List.mem_cons_self)) (hok _ (List.mem_cons_of_mem _ (List.mem_cons_of_mem _ List.mem_cons_self))) (hok _ (List.mem_cons_of_mem _ (List.mem_cons_of_mem _ (List.mem_cons_of_mem _ List.mem_cons_self)))))
set_option maxRecDepth 20000 in
theorem v10_four {g : Gl} {d : Nat} {Q : Hp → Prop} {x1 : Int} {h : Hp} (v0 : L0 g d m10_four (retV Q) 2 [some (LR 10 608), some (LI x1), some (LI 3)] h) : L0 g d m10_four (retV Q) 0 [some (LR 10 608), some (LI x1), none] h :=
 LW.run 40 [(2, [true, true, true])] k10_four (v0)
set_option maxRecDepth 20000 in
theorem v10_four_2 {g : Gl} {d : Nat} {Q : Hp → Prop} {x1 y2 : Int} {h : Hp} (v0 : ((y2 < 0 → Q h) ∧
 (¬ y2 < 0 → 0 ≤ (h 608 7) ∧ (h 608 7) < 1000 ∧ ∀ h2 : Hp, h2 = hup h 613 (h 608 7) (w8 (ishrI x1 (w32 (8 * y2)))) →
 ∀ h3 : Hp, h3 = hup h2 608 7 (w32 ((h2 608 7) + 1)) →
 L0 g d m10_four (retV Q) 2 [some (LR 10 608), some (LI x1), some (LI (w32 (y2 + (-1))))] h3))) : L0 g d m10_four (retV Q) 2 [some (LR 10 608), some (LI x1), some (LI y2)] h :=
 LW.run 40 [(2, [true, true, true])] k10_four (And.intro (fun c1 => And.intro rfl (v0.1 c1)) (fun c1 => And.intro (show (608 : Int) ≠ 0 by decide) (And.intro (show (608 : Int) ≠ 0 by decide) (And.intro (show (613 : Int) ≠ 0 by decide) (And.intro (v0.2 c1).1 (And.intro (v0.2 c1).2.1 (And.intro (w8_in _) (And.intro (show (608 : Int) ≠ 0 by decide) (And.intro (show (608 : Int) ≠ 0 by decide) ((((v0.2 c1).2.2 _ rfl) _ rfl)))))))))))
theorem g10_four {g : Gl} {d : Nat} {Q : LV → Hp → Prop} {x1 : Int} {h : Hp} (X : inI x1 → L0 g d m10_four Q 0 [some (LR 10 608), some (LI x1), none] h) : Good g (d + 1) i10_four [LR 10 608, LI x1] S0 h S0 Q := Good.body (M := m10_four) k10_four (Int.le_refl _) (Nat.le_of_ble_eq_true rfl) (fun hok => X (hok _ (List.mem_cons_of_mem _ List.mem_cons_self)))
set_option maxRecDepth 20000 in
theorem v10_feed {g : Gl} {d : Nat} {Q : Int → Hp → Prop} {x1 x2 x3 x4 x5 : Int} {h : Hp} (v0 : (((w32 ((h 608 7) + 20)) ≤ 1000 → Good g d i10_four [LR 10 608, LI x1] S0 h S0 (retV (fun h2 =>
 Good g d i10_four [LR 10 608, LI x2] S0 h2 S0 (retV (fun h4 =>
 Good g d i10_four [LR 10 608, LI x3] S0 h4 S0 (retV (fun h6 =>
 Good g d i10_four [LR 10 608, LI x4] S0 h6 S0 (retV (fun h8 =>
 Good g d i10_four [LR 10 608, LI x5] S0 h8 S0 (retV (fun h10 =>
 Q (h10 608 7) h10))))))))))) ∧
 (¬ (w32 ((h 608 7) + 20)) ≤ 1000 → Q (-1004) h))) : L0 g d m10_feed (retI Q) 0 [some (LR 10 608), some (LI x1), some (LI x2), some (LI x3), some (LI x4), some (LI x5)] h :=
 LW.run 40 [] k10_feed (And.intro (show (608 : Int) ≠ 0 by decide) (And.intro (fun c1 => And.intro (show (608 : Int) ≠ 0 by decide) (And.intro (Int.le_refl _) (Good.mV (v0.1 c1) (fun h2 v3 => And.intro (show (608 : Int) ≠ 0 by decide) (And.intro (Int.le_refl _) (Good.mV v3 (fun h4 v5 => And.intro (show (608 : Int) ≠ 0 by decide) (And.intro (Int.le_refl _) (Good.mV v5 (fun h6 v7 => And.intro (show (608 : Int) ≠ 0 by decide) (And.intro (Int.le_refl _) (Good.mV v7 (fun h8 v9 => And.intro (show (608 : Int) ≠ 0 by decide) (And.intro (Int.le_refl _) (Good.mV v9 (fun h10 v11 => And.intro (show (608 : Int) ≠ 0 by decide) (And.intro rfl v11))))))))))))))))) (fun c1 => And.intro rfl (v0.2 c1))))
theorem g10_feed {g : Gl} {d : Nat} {Q : LV → Hp → Prop} {x1 x2 x3 x4 x5 : Int} {h : Hp} (X : inI x1 → inI x2 → inI x3 → inI x4 → inI x5 → L0 g d m10_feed Q 0 [some (LR 10 608), some (LI x1), some (LI x2), some (LI x3), some (LI x4), some (LI x5)] h) : Good g (d + 1) i10_feed [LR 10 608, LI x1, LI x2, LI x3, LI x4, LI x5] S0 h S0 Q := Good.body (M := m10_feed) k10_feed (Int.le_refl _) (Nat.le_of_ble_eq_true rfl) (fun hok => X (hok _ (List.mem_cons_of_mem _ List.mem_cons_self)) (hok _ (List.mem_cons_of_mem _ (List.mem_cons_of_mem _ List.mem_cons_self))) (hok _ (List.mem_cons_of_mem _ (List.mem_cons_of_mem _ (List.mem_cons_of_mem _ List.mem_cons_self)))) (hok _ (List.mem_cons_of_mem _ (List.mem_cons_of_mem _ (List.mem_cons_of_mem _ (List.mem_cons_of_mem _ List.mem_cons_self))))) (hok _ (List.mem_cons_of_mem _ (List.mem_cons_of_mem _ (List.mem_cons_of_mem _ (List.mem_cons_of_mem _ (List.mem_cons_of_mem _ List.mem_cons_self)))))))
set_option maxRecDepth 20000 in
theorem v10_cut {g : Gl} {d : Nat} {Q : Int → Hp → Prop} {x1 : Int} {h : Hp} (v0 : Good g d i10_in [LL x1, LL 0, LL (h 608 7)] S0 h S0 (retI (fun r3 h1 =>
 ((¬ r3 = 0 → ∀ h5 : Hp, h5 = hup h1 608 7 x1 →
 Q (w32 ((h1 608 7) - x1)) h5) ∧
 (r3 = 0 → Q (-1002) h1))))) : L0 g d m10_cut (retI Q) 0 [some (LR 10 608), some (LI x1), none] h :=
 LW.run 40 [] k10_cut (And.intro (show (608 : Int) ≠ 0 by decide) (And.intro (Int.le_refl _) (Good.mI v0 (fun r3 h1 v2 => And.intro (fun c4 => And.intro (show (608 : Int) ≠ 0 by decide) (And.intro (show (608 : Int) ≠ 0 by decide) (And.intro rfl ((v2.1 c4) _ rfl)))) (fun c4 => And.intro rfl (v2.2 c4))))))
theorem g10_cut {g : Gl} {d : Nat} {Q : LV → Hp → Prop} {x1 : Int} {h : Hp} (X : inI x1 → L0 g d m10_cut Q 0 [some (LR 10 608), some (LI x1), none] h) : Good g (d + 1) i10_cut [LR 10 608, LI x1] S0 h S0 Q := Good.body (M := m10_cut) k10_cut (Int.le_refl _) (Nat.le_of_ble_eq_true rfl) (fun hok => X (hok _ (List.mem_cons_of_mem _ List.mem_cons_self)))
set_option maxRecDepth 20000 in
theorem v10_wrong {g : Gl} {d : Nat} {Q : Hp → Prop} {x1 x2 : Int} {h : Hp} (v0 : ((¬ (h 608 21) = 0 → Q h) ∧
 ((h 608 21) = 0 → ∀ h2 : Hp, h2 = hup h 608 21 x1 →
 ∀ h3 : Hp, h3 = hup h2 608 22 x2 →
 Q h3))) : L0 g d m10_wrong (retV Q) 0 [some (LR 10 608), some (LI x1), some (LI x2)] h :=
 LW.run 40 [] k10_wrong (And.intro (show (608 : Int) ≠ 0 by decide) (And.intro (fun c1 => And.intro rfl (v0.1 c1)) (fun c1 => And.intro (show (608 : Int) ≠ 0 by decide) (And.intro (show (608 : Int) ≠ 0 by decide) (And.intro rfl (((v0.2 c1) _ rfl) _ rfl))))))
theorem g10_wrong {g : Gl} {d : Nat} {Q : LV → Hp → Prop} {x1 x2 : Int} {h : Hp} (X : inI x1 → inI x2 → L0 g d m10_wrong Q 0 [some (LR 10 608), some (LI x1), some (LI x2)] h) : Good g (d + 1) i10_wrong [LR 10 608, LI x1, LI x2] S0 h S0 Q := Good.body (M := m10_wrong) k10_wrong (Int.le_refl _) (Nat.le_of_ble_eq_true rfl) (fun hok => X (hok _ (List.mem_cons_of_mem _ List.mem_cons_self)) (hok _ (List.mem_cons_of_mem _ (List.mem_cons_of_mem _ List.mem_cons_self))))
set_option maxRecDepth 20000 in
theorem v10_fine {g : Gl} {d : Nat} {Q : Int → Hp → Prop} {h : Hp} (v0 : ((¬ (h 608 21) = 0 → Q 0 h) ∧
 ((h 608 21) = 0 → Q 1 h))) : L0 g d m10_fine (retI Q) 0 [some (LR 10 608)] h :=
 LW.run 40 [] k10_fine (And.intro (show (608 : Int) ≠ 0 by decide) (And.intro (fun c1 => And.intro (Or.inl rfl) (And.intro rfl (v0.1 c1))) (fun c1 => And.intro (Or.inr rfl) (And.intro rfl (v0.2 c1)))))
theorem g10_fine {g : Gl} {d : Nat} {Q : LV → Hp → Prop} {h : Hp} (X : L0 g d m10_fine Q 0 [some (LR 10 608)] h) : Good g (d + 1) i10_fine [LR 10 608] S0 h S0 Q := Good.body (M := m10_fine) k10_fine (Int.le_refl _) (Nat.le_of_ble_eq_true rfl) (fun hok => X )
set_option maxRecDepth 20000 in
theorem v10_here {g : Gl} {d : Nat} {Q : Int → Hp → Prop} {h : Hp} (v0 : (((h 608 7) ≤ (h 608 20) → Q (-1) h) ∧
 (¬ (h 608 7) ≤ (h 608 20) → 0 ≤ (h 608 20) ∧ (h 608 20) < 1000 ∧ Q (iandI (h 613 (h 608 20)) 255) h))) : L0 g d m10_here (retI Q) 0 [some (LR 10 608)] h :=
 LW.run 40 [] k10_here (And.intro (show (608 : Int) ≠ 0 by decide) (And.intro (show (608 : Int) ≠ 0 by decide) (And.intro (fun c1 => And.intro rfl (v0.1 c1)) (fun c1 => And.intro (show (608 : Int) ≠ 0 by decide) (And.intro (show (608 : Int) ≠ 0 by decide) (And.intro (show (613 : Int) ≠ 0 by decide) (And.intro (v0.2 c1).1 (And.intro (v0.2 c1).2.1 (And.intro rfl (v0.2 c1).2.2)))))))))
theorem g10_here {g : Gl} {d : Nat} {Q : LV → Hp → Prop} {h : Hp} (X : L0 g d m10_here Q 0 [some (LR 10 608)] h) : Good g (d + 1) i10_here [LR 10 608] S0 h S0 Q := Good.body (M := m10_here) k10_here (Int.le_refl _) (Nat.le_of_ble_eq_true rfl) (fun hok => X )
set_option maxRecDepth 20000 in
theorem v10_blanks_0 {g : Gl} {d : Nat} {Q : Hp → Prop} {h : Hp} (v0 : (((h 608 7) ≤ (h 608 20) → Q h) ∧
 (¬ (h 608 7) ≤ (h 608 20) → 0 ≤ (h 608 20) ∧ (h 608 20) < 1000 ∧ (((h 613 (h 608 20)) = 32 → ∀ h3 : Hp, h3 = hup h 608 20 (w32 ((h 608 20) + 1)) →
 L0 g d m10_blanks (retV Q) 0 [some (LR 10 608)] h3) ∧
 (¬ (h 613 (h 608 20)) = 32 → ((¬ (h 613 (h 608 20)) = 10 → Q h) ∧
 ((h 613 (h 608 20)) = 10 → ∀ h5 : Hp, h5 = hup h 608 20 (w32 ((h 608 20) + 1)) →
 L0 g d m10_blanks (retV Q) 0 [some (LR 10 608)] h5))))))) : L0 g d m10_blanks (retV Q) 0 [some (LR 10 608)] h :=
 LW.run 40 [(0, [true])] k10_blanks (And.intro (show (608 : Int) ≠ 0 by decide) (And.intro (show (608 : Int) ≠ 0 by decide) (And.intro (fun c1 => And.intro rfl (v0.1 c1)) (fun c1 => And.intro (show (608 : Int) ≠ 0 by decide) (And.intro (show (608 : Int) ≠ 0 by decide) (And.intro (show (613 : Int) ≠ 0 by decide) (And.intro (v0.2 c1).1 (And.intro (v0.2 c1).2.1 (And.intro (fun c2 => And.intro (show (608 : Int) ≠ 0 by decide) (And.intro (show (608 : Int) ≠ 0 by decide) ((((v0.2 c1).2.2.1 c2) _ rfl)))) (fun c2 => And.intro (show (608 : Int) ≠ 0 by decide) (And.intro (show (608 : Int) ≠ 0 by decide) (And.intro (show (613 : Int) ≠ 0 by decide) (And.intro (v0.2 c1).1 (And.intro (v0.2 c1).2.1 (And.intro (fun c4 => And.intro rfl (((v0.2 c1).2.2.2 c2).1 c4)) (fun c4 => And.intro (show (608 : Int) ≠ 0 by decide) (And.intro (show (608 : Int) ≠ 0 by decide) (((((v0.2 c1).2.2.2 c2).2 c4) _ rfl)))))))))))))))))))
theorem g10_blanks {g : Gl} {d : Nat} {Q : LV → Hp → Prop} {h : Hp} (X : L0 g d m10_blanks Q 0 [some (LR 10 608)] h) : Good g (d + 1) i10_blanks [LR 10 608] S0 h S0 Q := Good.body (M := m10_blanks) k10_blanks (Int.le_refl _) (Nat.le_of_ble_eq_true rfl) (fun hok => X )
set_option maxRecDepth 20000 in
theorem v10_isDigit {g : Gl} {d : Nat} {Q : Int → Hp → Prop} {x0 : Int} {h : Hp} (v0 : Good g d i10_in [LL x0, LL 48, LL 57] S0 h S0 (retI (fun r3 h1 =>
 (r3 = 0 ∨ r3 = 1) ∧ Q r3 h1))) : L0 g d m10_isDigit (retI Q) 0 [some (LI x0)] h :=
 LW.run 40 [] k10_isDigit (And.intro (Int.le_refl _) (Good.mI v0 (fun r3 h1 v2 => And.intro v2.1 (And.intro rfl v2.2))))
theorem g10_isDigit {g : Gl} {d : Nat} {Q : LV → Hp → Prop} {x0 : Int} {h : Hp} (X : inI x0 → L0 g d m10_isDigit Q 0 [some (LI x0)] h) : Good g (d + 1) i10_isDigit [LI x0] S0 h S0 Q := Good.body (M := m10_isDigit) k10_isDigit (Int.le_refl _) (Nat.le_of_ble_eq_true rfl) (fun hok => X (hok _ List.mem_cons_self))
set_option maxRecDepth 20000 in
theorem v10_digitsFrom {g : Gl} {d : Nat} {Q : Int → Hp → Prop} {x1 : Int} {h : Hp} (v0 : L0 g d m10_digitsFrom (retI Q) 2 [some (LR 10 608), some (LI x1), some (LI 0)] h) : L0 g d m10_digitsFrom (retI Q) 0 [some (LR 10 608), some (LI x1), none] h :=
 LW.run 40 [(2, [true, true, true])] k10_digitsFrom (v0)
set_option maxRecDepth 20000 in
theorem v10_digitsFrom_2 {g : Gl} {d : Nat} {Q : Int → Hp → Prop} {x1 y2 : Int} {h : Hp} (v0 : (((h 608 7) ≤ (w32 (x1 + y2)) → Q y2 h) ∧
 (¬ (h 608 7) ≤ (w32 (x1 + y2)) → 0 ≤ ((w32 (x1 + y2))) ∧ ((w32 (x1 + y2))) < 1000 ∧ Good g d i10_isDigit [LI (h 613 (w32 (x1 + y2)))] S0 h S0 (retI (fun r4 h2 =>
 ((r4 = 0 → Q y2 h2) ∧
 (¬ r4 = 0 → L0 g d m10_digitsFrom (retI Q) 2 [some (LR 10 608), some (LI x1), some (LI (w32 (y2 + 1)))] h2))))))) : L0 g d m10_digitsFrom (retI Q) 2 [some (LR 10 608), some (LI x1), some (LI y2)] h :=
 LW.run 40 [(2, [true, true, true])] k10_digitsFrom (And.intro (show (608 : Int) ≠ 0 by decide) (And.intro (fun c1 => And.intro rfl (v0.1 c1)) (fun c1 => And.intro (show (608 : Int) ≠ 0 by decide) (And.intro (show (613 : Int) ≠ 0 by decide) (And.intro (v0.2 c1).1 (And.intro (v0.2 c1).2.1 (And.intro (Int.le_refl _) (Good.mI (v0.2 c1).2.2 (fun r4 h2 v3 => And.intro (fun c5 => And.intro rfl (v3.1 c5)) (fun c5 => (v3.2 c5)))))))))))
theorem g10_digitsFrom {g : Gl} {d : Nat} {Q : LV → Hp → Prop} {x1 : Int} {h : Hp} (X : inI x1 → L0 g d m10_digitsFrom Q 0 [some (LR 10 608), some (LI x1), none] h) : Good g (d + 1) i10_digitsFrom [LR 10 608, LI x1] S0 h S0 Q := Good.body (M := m10_digitsFrom) k10_digitsFrom (Int.le_refl _) (Nat.le_of_ble_eq_true rfl) (fun hok => X (hok _ (List.mem_cons_of_mem _ List.mem_cons_self)))
set_option maxRecDepth 20000 in
theorem v10_digits {g : Gl} {d : Nat} {Q : Int → Hp → Prop} {x1 : Int} {h : Hp} (v0 : L0 g d m10_digits (retL Q) 5 [some (LR 10 608), some (LI x1), some (LL 0), none, some (LI 0)] h) : L0 g d m10_digits (retL Q) 0 [some (LR 10 608), some (LI x1), none, none, none] h :=
 LW.run 40 [(5, [true, true, true, false, true])] k10_digits (v0)
set_option maxRecDepth 20000 in
theorem v10_digits_5 {g : Gl} {d : Nat} {Q : Int → Hp → Prop} {x1 y2 y4 : Int} {h : Hp} (v0 : ((x1 ≤ y4 → Q y2 h) ∧
 (¬ x1 ≤ y4 → 0 ≤ (h 608 20) ∧ (h 608 20) < 1000 ∧ ∀ h2 : Hp, h2 = hup h 608 20 (w32 ((h 608 20) + 1)) →
 L0 g d m10_digits (retL Q) 5 [some (LR 10 608), some (LI x1), some (LL (w64 ((w64 ((w64 (10 * y2)) + (h 613 (h 608 20)))) - 48))), none, some (LI (w32 (y4 + 1)))] h2))) : L0 g d m10_digits (retL Q) 5 [some (LR 10 608), some (LI x1), some (LL y2), none, some (LI y4)] h :=
 LW.run 40 [(5, [true, true, true, false, true])] k10_digits (And.intro (fun c1 => And.intro rfl (v0.1 c1)) (fun c1 => And.intro (show (608 : Int) ≠ 0 by decide) (And.intro (show (608 : Int) ≠ 0 by decide) (And.intro (show (613 : Int) ≠ 0 by decide) (And.intro (v0.2 c1).1 (And.intro (v0.2 c1).2.1 (And.intro (show (608 : Int) ≠ 0 by decide) (And.intro (show (608 : Int) ≠ 0 by decide) (((v0.2 c1).2.2 _ rfl))))))))))
theorem g10_digits {g : Gl} {d : Nat} {Q : LV → Hp → Prop} {x1 : Int} {h : Hp} (X : inI x1 → L0 g d m10_digits Q 0 [some (LR 10 608), some (LI x1), none, none, none] h) : Good g (d + 1) i10_digits [LR 10 608, LI x1] S0 h S0 Q := Good.body (M := m10_digits) k10_digits (Int.le_refl _) (Nat.le_of_ble_eq_true rfl) (fun hok => X (hok _ (List.mem_cons_of_mem _ List.mem_cons_self)))
set_option maxRecDepth 20000 in
theorem v10_number {g : Gl} {d : Nat} {Q : Int → Hp → Prop} {x1 : Int} {h : Hp} (v0 : Good g d i10_here [LR 10 608] S0 h S0 (retI (fun r3 h1 =>
 ((¬ r3 = 45 → Good g d i10_digitsFrom [LR 10 608, LI (h1 608 20)] S0 h1 S0 (retI (fun r7 h5 =>
 ((r7 ≤ 18 → ((x1 = 0 → L0 g d m10_number (retL Q) 82 [some (LR 10 608), none, some (LI 0), some (LI r7), none, none] h5) ∧
 (¬ x1 = 0 → ((¬ (h5 608 17) = (h5 608 18) → L0 g d m10_number (retL Q) 82 [some (LR 10 608), none, some (LI 0), some (LI r7), none, none] h5) ∧
 ((h5 608 17) = (h5 608 18) → Good g d i10_wrong [LR 10 608, LI 4, LI (h5 608 20)] S0 h5 S0 (retV (fun h11 =>
 L0 g d m10_number (retL Q) 108 [some (LR 10 608), none, some (LI 0), some (LI r7), none, none] h11))))))) ∧
 (¬ r7 ≤ 18 → Good g d i10_wrong [LR 10 608, LI 3, LI (h5 608 20)] S0 h5 S0 (retV (fun h13 =>
 L0 g d m10_number (retL Q) 108 [some (LR 10 608), none, some (LI 0), some (LI r7), none, none] h13))))))) ∧
 (r3 = 45 → Good g d i10_digitsFrom [LR 10 608, LI (w32 ((h1 608 20) + 1))] S0 h1 S0 (retI (fun r17 h15 =>
 ((r17 ≤ 18 → ((x1 = 0 → L0 g d m10_number (retL Q) 82 [some (LR 10 608), none, some (LI 1), some (LI r17), none, none] h15) ∧
 (¬ x1 = 0 → ((¬ (h15 608 17) = (h15 608 18) → L0 g d m10_number (retL Q) 82 [some (LR 10 608), none, some (LI 1), some (LI r17), none, none] h15) ∧
 ((h15 608 17) = (h15 608 18) → Good g d i10_wrong [LR 10 608, LI 4, LI (h15 608 20)] S0 h15 S0 (retV (fun h21 =>
 L0 g d m10_number (retL Q) 108 [some (LR 10 608), none, some (LI 1), some (LI r17), none, none] h21))))))) ∧
 (¬ r17 ≤ 18 → Good g d i10_wrong [LR 10 608, LI 3, LI (h15 608 20)] S0 h15 S0 (retV (fun h23 =>
 L0 g d m10_number (retL Q) 108 [some (LR 10 608), none, some (LI 1), some (LI r17), none, none] h23))))))))))) : L0 g d m10_number (retL Q) 0 [some (LR 10 608), some (LI x1), none, none, none, none] h :=
 LW.run 40 [(82, [true, false, true, true, false, false]), (108, [true, false, true, true, false, false])] k10_number (And.intro (show (608 : Int) ≠ 0 by decide) (And.intro (Int.le_refl _) (Good.mI v0 (fun r3 h1 v2 => And.intro (fun c4 => And.intro (fun _ => And.intro (show (608 : Int) ≠ 0 by decide) (And.intro (show (608 : Int) ≠ 0 by decide) (And.intro (Int.le_refl _) (Good.mI (v2.1 c4) (fun r7 h5 v6 => And.intro (fun c8 => And.intro (fun c9 => ((v6.1 c8).1 c9)) (fun c9 => And.intro (show (608 : Int) ≠ 0 by decide) (And.intro (show (608 : Int) ≠ 0 by decide) (And.intro (fun c10 => (((v6.1 c8).2 c9).1 c10)) (fun c10 => And.intro (show (608 : Int) ≠ 0 by decide) (And.intro (show (608 : Int) ≠ 0 by decide) (And.intro (Int.le_refl _) (Good.mV (((v6.1 c8).2 c9).2 c10) (fun h11 v12 => v12))))))))) (fun c8 => And.intro (show (608 : Int) ≠ 0 by decide) (And.intro (show (608 : Int) ≠ 0 by decide) (And.intro (Int.le_refl _) (Good.mV (v6.2 c8) (fun h13 v14 => v14)))))))))) (fun z => absurd (show (0 : Int) = 0 by decide) z)) (fun c4 => And.intro (fun z => absurd z (show ¬ (1 : Int) = 0 by decide)) (fun _ => And.intro (show (608 : Int) ≠ 0 by decide) (And.intro (show (608 : Int) ≠ 0 by decide) (And.intro (Int.le_refl _) (Good.mI (v2.2 c4) (fun r17 h15 v16 => And.intro (fun c18 => And.intro (fun c19 => ((v16.1 c18).1 c19)) (fun c19 => And.intro (show (608 : Int) ≠ 0 by decide) (And.intro (show (608 : Int) ≠ 0 by decide) (And.intro (fun c20 => (((v16.1 c18).2 c19).1 c20)) (fun c20 => And.intro (show (608 : Int) ≠ 0 by decide) (And.intro (show (608 : Int) ≠ 0 by decide) (And.intro (Int.le_refl _) (Good.mV (((v16.1 c18).2 c19).2 c20) (fun h21 v22 => v22))))))))) (fun c18 => And.intro (show (608 : Int) ≠ 0 by decide) (And.intro (show (608 : Int) ≠ 0 by decide) (And.intro (Int.le_refl _) (Good.mV (v16.2 c18) (fun h23 v24 => v24)))))))))))))))
set_option maxRecDepth 20000 in
theorem v10_number_82 {g : Gl} {d : Nat} {Q : Int → Hp → Prop} {y2 y3 : Int} {h : Hp} (v0 : ((¬ y3 = 0 → L0 g d m10_number (retL Q) 108 [some (LR 10 608), none, some (LI y2), some (LI y3), none, none] h) ∧
 (y3 = 0 → ((y2 = 0 → Good g d i10_wrong [LR 10 608, LI 1, LI (h 608 20)] S0 h S0 (retV (fun h3 =>
 L0 g d m10_number (retL Q) 108 [some (LR 10 608), none, some (LI y2), some (LI y3), none, none] h3))) ∧
 (¬ y2 = 0 → Good g d i10_wrong [LR 10 608, LI 1, LI (w32 ((h 608 20) + 1))] S0 h S0 (retV (fun h5 =>
 L0 g d m10_number (retL Q) 108 [some (LR 10 608), none, some (LI y2), some (LI y3), none, none] h5))))))) : L0 g d m10_number (retL Q) 82 [some (LR 10 608), none, some (LI y2), some (LI y3), none, none] h :=
 LW.run 40 [(82, [true, false, true, true, false, false]), (108, [true, false, true, true, false, false])] k10_number (And.intro (fun c1 => (v0.1 c1)) (fun c1 => And.intro (fun c2 => And.intro (show (608 : Int) ≠ 0 by decide) (And.intro (show (608 : Int) ≠ 0 by decide) (And.intro (Int.le_refl _) (Good.mV ((v0.2 c1).1 c2) (fun h3 v4 => v4))))) (fun c2 => And.intro (show (608 : Int) ≠ 0 by decide) (And.intro (show (608 : Int) ≠ 0 by decide) (And.intro (Int.le_refl _) (Good.mV ((v0.2 c1).2 c2) (fun h5 v6 => v6)))))))
set_option maxRecDepth 20000 in
theorem v10_number_108 {g : Gl} {d : Nat} {Q : Int → Hp → Prop} {y2 y3 : Int} {h : Hp} (v0 : Good g d i10_fine [LR 10 608] S0 h S0 (retI (fun r3 h1 =>
 ((¬ r3 = 0 → ((y2 = 0 → ∀ h6 : Hp, h6 = hup h1 608 20 (w32 ((h1 608 20) + 0)) →
 Good g d i10_digits [LR 10 608, LI y3] S0 h6 S0 (retL (fun r9 h7 =>
 Q r9 h7))) ∧
 (¬ y2 = 0 → ∀ h10 : Hp, h10 = hup h1 608 20 (w32 ((h1 608 20) + 1)) →
 Good g d i10_digits [LR 10 608, LI y3] S0 h10 S0 (retL (fun r13 h11 =>
 Q (w64 (-r13)) h11))))) ∧
 (r3 = 0 → Q 0 h1))))) : L0 g d m10_number (retL Q) 108 [some (LR 10 608), none, some (LI y2), some (LI y3), none, none] h :=
 LW.run 40 [(82, [true, false, true, true, false, false]), (108, [true, false, true, true, false, false])] k10_number (And.intro (show (608 : Int) ≠ 0 by decide) (And.intro (Int.le_refl _) (Good.mI v0 (fun r3 h1 v2 => And.intro (fun c4 => And.intro (show (608 : Int) ≠ 0 by decide) (And.intro (fun c5 => And.intro (show (608 : Int) ≠ 0 by decide) (And.intro (show (608 : Int) ≠ 0 by decide) (And.intro (Int.le_refl _) (Good.mL (((v2.1 c4).1 c5) _ rfl) (fun r9 h7 v8 => And.intro (fun _ => And.intro rfl v8) (fun z => absurd c5 z)))))) (fun c5 => And.intro (show (608 : Int) ≠ 0 by decide) (And.intro (show (608 : Int) ≠ 0 by decide) (And.intro (Int.le_refl _) (Good.mL (((v2.1 c4).2 c5) _ rfl) (fun r13 h11 v12 => And.intro (fun z => absurd z c5) (fun _ => And.intro rfl v12)))))))) (fun c4 => And.intro rfl (v2.2 c4))))))
theorem g10_number {g : Gl} {d : Nat} {Q : LV → Hp → Prop} {x1 : Int} {h : Hp} (X : inI x1 → L0 g d m10_number Q 0 [some (LR 10 608), some (LI x1), none, none, none, none] h) : Good g (d + 1) i10_number [LR 10 608, LI x1] S0 h S0 Q := Good.body (M := m10_number) k10_number (Int.le_refl _) (Nat.le_of_ble_eq_true rfl) (fun hok => X (hok _ (List.mem_cons_of_mem _ List.mem_cons_self)))
set_option maxRecDepth 20000 in
theorem v10_newNode {g : Gl} {d : Nat} {Q : Int → Hp → Prop} {x1 : Int} {h : Hp} (v0 : ((¬ (h 608 17) = (h 608 18) → 0 ≤ (h 608 17) ∧ (h 608 17) < 121 ∧ ∀ h2 : Hp, h2 = hup h 614 (h 608 17) x1 →
 ∀ h3 : Hp, h3 = hup h2 615 (h 608 17) (-1) →
 ∀ h4 : Hp, h4 = hup h3 616 (h 608 17) 0 →
 ∀ h5 : Hp, h5 = hup h4 617 (h 608 17) (-1) →
 ∀ h6 : Hp, h6 = hup h5 618 (h 608 17) 0 →
 ∀ h7 : Hp, h7 = hup h6 619 (h 608 17) 0 →
 ∀ h8 : Hp, h8 = hup h7 608 17 (w32 ((h7 608 17) + 1)) →
 Q (h 608 17) h8) ∧
 ((h 608 17) = (h 608 18) → Good g d i10_wrong [LR 10 608, LI 4, LI (h 608 20)] S0 h S0 (retV (fun h9 =>
 Q 0 h9))))) : L0 g d m10_newNode (retI Q) 0 [some (LR 10 608), some (LI x1), none] h :=
 LW.run 40 [] k10_newNode (And.intro (show (608 : Int) ≠ 0 by decide) (And.intro (show (608 : Int) ≠ 0 by decide) (And.intro (fun c1 => And.intro (show (608 : Int) ≠ 0 by decide) (And.intro (show (608 : Int) ≠ 0 by decide) (And.intro (show 4 ≤ (614 : Int) by decide) (And.intro (v0.1 c1).1 (And.intro (v0.1 c1).2.1 (And.intro (show (608 : Int) ≠ 0 by decide) (And.intro (show 4 ≤ (615 : Int) by decide) (And.intro (v0.1 c1).1 (And.intro (v0.1 c1).2.1 (And.intro (show (608 : Int) ≠ 0 by decide) (And.intro (show (616 : Int) ≠ 0 by decide) (And.intro (v0.1 c1).1 (And.intro (v0.1 c1).2.1 (And.intro (show (608 : Int) ≠ 0 by decide) (And.intro (show 4 ≤ (617 : Int) by decide) (And.intro (v0.1 c1).1 (And.intro (v0.1 c1).2.1 (And.intro (show (608 : Int) ≠ 0 by decide) (And.intro (show 4 ≤ (618 : Int) by decide) (And.intro (v0.1 c1).1 (And.intro (v0.1 c1).2.1 (And.intro (show (608 : Int) ≠ 0 by decide) (And.intro (show (619 : Int) ≠ 0 by decide) (And.intro (v0.1 c1).1 (And.intro (v0.1 c1).2.1 (And.intro (Or.inl rfl) (And.intro (show (608 : Int) ≠ 0 by decide) (And.intro (show (608 : Int) ≠ 0 by decide) (And.intro rfl ((((((((v0.1 c1).2.2 _ rfl) _ rfl) _ rfl) _ rfl) _ rfl) _ rfl) _ rfl)))))))))))))))))))))))))))))) (fun c1 => And.intro (show (608 : Int) ≠ 0 by decide) (And.intro (show (608 : Int) ≠ 0 by decide) (And.intro (Int.le_refl _) (Good.mV (v0.2 c1) (fun h9 v10 => And.intro rfl v10))))))))
theorem g10_newNode {g : Gl} {d : Nat} {Q : LV → Hp → Prop} {x1 : Int} {h : Hp} (X : inI x1 → L0 g d m10_newNode Q 0 [some (LR 10 608), some (LI x1), none] h) : Good g (d + 1) i10_newNode [LR 10 608, LI x1] S0 h S0 Q := Good.body (M := m10_newNode) k10_newNode (Int.le_refl _) (Nat.le_of_ble_eq_true rfl) (fun hok => X (hok _ (List.mem_cons_of_mem _ List.mem_cons_self)))
set_option maxRecDepth 20000 in
theorem v10_deeper {g : Gl} {d : Nat} {Q : Hp → Prop} {h : Hp} (v0 : ((¬ (h 608 24) = 12 → ∀ h2 : Hp, h2 = hup h 608 24 (w32 ((h 608 24) + 1)) →
 Q h2) ∧
 ((h 608 24) = 12 → Good g d i10_wrong [LR 10 608, LI 5, LI (h 608 20)] S0 h S0 (retV (fun h3 =>
 ∀ h5 : Hp, h5 = hup h3 608 24 (w32 ((h3 608 24) + 1)) →
 Q h5))))) : L0 g d m10_deeper (retV Q) 0 [some (LR 10 608)] h :=
 LW.run 40 [] k10_deeper (And.intro (show (608 : Int) ≠ 0 by decide) (And.intro (fun c1 => And.intro (show (608 : Int) ≠ 0 by decide) (And.intro (show (608 : Int) ≠ 0 by decide) (And.intro rfl ((v0.1 c1) _ rfl)))) (fun c1 => And.intro (show (608 : Int) ≠ 0 by decide) (And.intro (show (608 : Int) ≠ 0 by decide) (And.intro (Int.le_refl _) (Good.mV (v0.2 c1) (fun h3 v4 => And.intro (show (608 : Int) ≠ 0 by decide) (And.intro (show (608 : Int) ≠ 0 by decide) (And.intro rfl (v4 _ rfl))))))))))
theorem g10_deeper {g : Gl} {d : Nat} {Q : LV → Hp → Prop} {h : Hp} (X : L0 g d m10_deeper Q 0 [some (LR 10 608)] h) : Good g (d + 1) i10_deeper [LR 10 608] S0 h S0 Q := Good.body (M := m10_deeper) k10_deeper (Int.le_refl _) (Nat.le_of_ble_eq_true rfl) (fun hok => X )
set_option maxRecDepth 20000 in
theorem v10_push {g : Gl} {d : Nat} {Q : Hp → Prop} {x1 : Int} {h : Hp} (v0 : 0 ≤ (h 608 27) ∧ (h 608 27) < 200 ∧ ∀ h1 : Hp, h1 = hup h 623 (h 608 27) x1 →
 0 ≤ (h1 608 27) ∧ (h1 608 27) < 200 ∧ ∀ h2 : Hp, h2 = hup h1 624 (h1 608 27) 0 →
 ∀ h3 : Hp, h3 = hup h2 608 27 (w32 ((h2 608 27) + 1)) →
 Q h3) : L0 g d m10_push (retV Q) 0 [some (LR 10 608), some (LI x1)] h :=
 LW.run 40 [] k10_push (And.intro (show (608 : Int) ≠ 0 by decide) (And.intro (show (608 : Int) ≠ 0 by decide) (And.intro (show 4 ≤ (623 : Int) by decide) (And.intro v0.1 (And.intro v0.2.1 (And.intro (show (608 : Int) ≠ 0 by decide) (And.intro (show (608 : Int) ≠ 0 by decide) (And.intro (show 4 ≤ (624 : Int) by decide) (And.intro (v0.2.2 _ rfl).1 (And.intro (v0.2.2 _ rfl).2.1 (And.intro (show (608 : Int) ≠ 0 by decide) (And.intro (show (608 : Int) ≠ 0 by decide) (And.intro rfl (((v0.2.2 _ rfl).2.2 _ rfl) _ rfl))))))))))))))
theorem g10_push {g : Gl} {d : Nat} {Q : LV → Hp → Prop} {x1 : Int} {h : Hp} (X : inI x1 → L0 g d m10_push Q 0 [some (LR 10 608), some (LI x1)] h) : Good g (d + 1) i10_push [LR 10 608, LI x1] S0 h S0 Q := Good.body (M := m10_push) k10_push (Int.le_refl _) (Nat.le_of_ble_eq_true rfl) (fun hok => X (hok _ (List.mem_cons_of_mem _ List.mem_cons_self)))
set_option maxRecDepth 20000 in
theorem v10_readNode {g : Gl} {d : Nat} {Q : Hp → Prop} {h : Hp} (v0 : Good g d i10_blanks [LR 10 608] S0 h S0 (retV (fun h1 =>
 Good g d i10_here [LR 10 608] S0 h1 S0 (retI (fun r5 h3 =>
 Good g d i10_in [LL r5, LL 97, LL 122] S0 h3 S0 (retI (fun r8 h6 =>
 ((r8 = 0 → Good g d i10_isDigit [LI r5] S0 h6 S0 (retI (fun r12 h10 =>
 ((¬ r12 = 0 → L0 g d m10_readNode (retV Q) 47 [some (LR 10 608), none, none, none, none] h10) ∧
 (r12 = 0 → ((¬ r5 = 45 → (((h10 608 19) = 0 ∨ (h10 608 19) = 1) → (((h10 608 19) = 0 → L0 g d m10_readNode (retV Q) 104 [some (LR 10 608), some (LI r5), none, none, none] h10) ∧
 (¬ (h10 608 19) = 0 → ((¬ r5 = 63 → L0 g d m10_readNode (retV Q) 104 [some (LR 10 608), some (LI r5), none, none, none] h10) ∧
 (r5 = 63 → Good g d i10_readHole [LR 10 608] S0 h10 S0 (retV (fun h18 =>
 Q h18)))))))) ∧
 (r5 = 45 → L0 g d m10_readNode (retV Q) 47 [some (LR 10 608), none, none, none, none] h10))))))) ∧
 (¬ r8 = 0 → Good g d i10_readLetter [LR 10 608, LI (w32 (r5 - 97))] S0 h6 S0 (retV (fun h20 =>
 Q h20))))))))))) : L0 g d m10_readNode (retV Q) 0 [some (LR 10 608), none, none, none, none] h :=
 LW.run 40 [(47, [true, false, false, false, false]), (81, [false, false, false, false, false]), (104, [true, true, false, false, false]), (123, [true, true, false, false, false]), (150, [true, true, true, false, false]), (184, [true, false, true, false, false]), (194, [true, false, true, false, false]), (206, [false, false, false, false, false]), (209, [true, false, false, false, false])] k10_readNode (And.intro (show (608 : Int) ≠ 0 by decide) (And.intro (Int.le_refl _) (Good.mV v0 (fun h1 v2 => And.intro (show (608 : Int) ≠ 0 by decide) (And.intro (Int.le_refl _) (Good.mI v2 (fun r5 h3 v4 => And.intro (Int.le_refl _) (Good.mI v4 (fun r8 h6 v7 => And.intro (fun c9 => And.intro (Int.le_refl _) (Good.mI (v7.1 c9) (fun r12 h10 v11 => And.intro (fun c13 => (v11.1 c13)) (fun c13 => And.intro (fun c14 => And.intro (show (608 : Int) ≠ 0 by decide) (fun c15 => And.intro (fun c16 => ((((v11.2 c13).1 c14) c15).1 c16)) (fun c16 => And.intro (fun c17 => (((((v11.2 c13).1 c14) c15).2 c16).1 c17)) (fun c17 => And.intro (show (608 : Int) ≠ 0 by decide) (And.intro (Int.le_refl _) (Good.mV (((((v11.2 c13).1 c14) c15).2 c16).2 c17) (fun h18 v19 => And.intro rfl v19))))))) (fun c14 => ((v11.2 c13).2 c14)))))) (fun c9 => And.intro (show (608 : Int) ≠ 0 by decide) (And.intro (Int.le_refl _) (Good.mV (v7.2 c9) (fun h20 v21 => And.intro rfl v21)))))))))))))
set_option maxRecDepth 20000 in
theorem v10_readNode_47 {g : Gl} {d : Nat} {Q : Hp → Prop} {h : Hp} (v0 : Good g d i10_number [LR 10 608, LI 1] S0 h S0 (retL (fun r3 h1 =>
 Good g d i10_fine [LR 10 608] S0 h1 S0 (retI (fun r6 h4 =>
 ((r6 = 0 → L0 g d m10_readNode (retV Q) 81 [none, none, none, none, none] h4) ∧
 (¬ r6 = 0 → Good g d i10_newNode [LR 10 608, LI 1] S0 h4 S0 (retI (fun r10 h8 =>
 0 ≤ r10 ∧ r10 < 121 ∧ ∀ h11 : Hp, h11 = hup h8 616 r10 r3 →
 Good g d i10_ended [LR 10 608, LI r10] S0 h11 S0 (retV (fun h12 =>
 L0 g d m10_readNode (retV Q) 81 [none, none, none, none, none] h12))))))))))) : L0 g d m10_readNode (retV Q) 47 [some (LR 10 608), none, none, none, none] h :=
 LW.run 40 [(47, [true, false, false, false, false]), (81, [false, false, false, false, false]), (104, [true, true, false, false, false]), (123, [true, true, false, false, false]), (150, [true, true, true, false, false]), (184, [true, false, true, false, false]), (194, [true, false, true, false, false]), (206, [false, false, false, false, false]), (209, [true, false, false, false, false])] k10_readNode (And.intro (show (608 : Int) ≠ 0 by decide) (And.intro (Int.le_refl _) (Good.mL v0 (fun r3 h1 v2 => And.intro (show (608 : Int) ≠ 0 by decide) (And.intro (Int.le_refl _) (Good.mI v2 (fun r6 h4 v5 => And.intro (fun c7 => (v5.1 c7)) (fun c7 => And.intro (show (608 : Int) ≠ 0 by decide) (And.intro (Int.le_refl _) (Good.mI (v5.2 c7) (fun r10 h8 v9 => And.intro (show (608 : Int) ≠ 0 by decide) (And.intro (show (616 : Int) ≠ 0 by decide) (And.intro v9.1 (And.intro v9.2.1 (And.intro (show (608 : Int) ≠ 0 by decide) (And.intro (Int.le_refl _) (Good.mV (v9.2.2 _ rfl) (fun h12 v13 => v13))))))))))))))))))
set_option maxRecDepth 20000 in
theorem v10_readNode_81 {g : Gl} {d : Nat} {Q : Hp → Prop} {h : Hp} (v0 : Q h) : L0 g d m10_readNode (retV Q) 81 [none, none, none, none, none] h :=
 LW.run 40 [(47, [true, false, false, false, false]), (81, [false, false, false, false, false]), (104, [true, true, false, false, false]), (123, [true, true, false, false, false]), (150, [true, true, true, false, false]), (184, [true, false, true, false, false]), (194, [true, false, true, false, false]), (206, [false, false, false, false, false]), (209, [true, false, false, false, false])] k10_readNode (And.intro rfl v0)
set_option maxRecDepth 20000 in
theorem v10_readNode_104 {g : Gl} {d : Nat} {Q : Hp → Prop} {y1 : Int} {h : Hp} (v0 : (((h 608 19) = 0 ∨ (h 608 19) = 1) → (((h 608 19) = 0 → L0 g d m10_readNode (retV Q) 209 [some (LR 10 608), none, none, none, none] h) ∧
 (¬ (h 608 19) = 0 → ((y1 = 46 → L0 g d m10_readNode (retV Q) 123 [some (LR 10 608), some (LI y1), none, none, none] h) ∧
 (¬ y1 = 46 → ((¬ y1 = 33 → L0 g d m10_readNode (retV Q) 209 [some (LR 10 608), none, none, none, none] h) ∧
 (y1 = 33 → L0 g d m10_readNode (retV Q) 123 [some (LR 10 608), some (LI y1), none, none, none] h)))))))) : L0 g d m10_readNode (retV Q) 104 [some (LR 10 608), some (LI y1), none, none, none] h :=
 LW.run 40 [(47, [true, false, false, false, false]), (81, [false, false, false, false, false]), (104, [true, true, false, false, false]), (123, [true, true, false, false, false]), (150, [true, true, true, false, false]), (184, [true, false, true, false, false]), (194, [true, false, true, false, false]), (206, [false, false, false, false, false]), (209, [true, false, false, false, false])] k10_readNode (And.intro (show (608 : Int) ≠ 0 by decide) (fun c1 => And.intro (fun c2 => ((v0 c1).1 c2)) (fun c2 => And.intro (fun c3 => (((v0 c1).2 c2).1 c3)) (fun c3 => And.intro (fun c4 => ((((v0 c1).2 c2).2 c3).1 c4)) (fun c4 => ((((v0 c1).2 c2).2 c3).2 c4))))))
set_option maxRecDepth 20000 in
theorem v10_readNode_123 {g : Gl} {d : Nat} {Q : Hp → Prop} {y1 : Int} {h : Hp} (v0 : ((¬ y1 = 46 → Good g d i10_newNode [LR 10 608, LI 4] S0 h S0 (retI (fun r4 h2 =>
 Good g d i10_fine [LR 10 608] S0 h2 S0 (retI (fun r7 h5 =>
 ((r7 = 0 → L0 g d m10_readNode (retV Q) 150 [some (LR 10 608), some (LI y1), some (LI r4), none, none] h5) ∧
 (¬ r7 = 0 → Good g d i10_deeper [LR 10 608] S0 h5 S0 (retV (fun h9 =>
 L0 g d m10_readNode (retV Q) 150 [some (LR 10 608), some (LI y1), some (LI r4), none, none] h9))))))))) ∧
 (y1 = 46 → Good g d i10_newNode [LR 10 608, LI 3] S0 h S0 (retI (fun r13 h11 =>
 Good g d i10_fine [LR 10 608] S0 h11 S0 (retI (fun r16 h14 =>
 ((r16 = 0 → L0 g d m10_readNode (retV Q) 150 [some (LR 10 608), some (LI y1), some (LI r13), none, none] h14) ∧
 (¬ r16 = 0 → Good g d i10_deeper [LR 10 608] S0 h14 S0 (retV (fun h18 =>
 L0 g d m10_readNode (retV Q) 150 [some (LR 10 608), some (LI y1), some (LI r13), none, none] h18))))))))))) : L0 g d m10_readNode (retV Q) 123 [some (LR 10 608), some (LI y1), none, none, none] h :=
 LW.run 40 [(47, [true, false, false, false, false]), (81, [false, false, false, false, false]), (104, [true, true, false, false, false]), (123, [true, true, false, false, false]), (150, [true, true, true, false, false]), (184, [true, false, true, false, false]), (194, [true, false, true, false, false]), (206, [false, false, false, false, false]), (209, [true, false, false, false, false])] k10_readNode (And.intro (fun c1 => And.intro (show (608 : Int) ≠ 0 by decide) (And.intro (Int.le_refl _) (Good.mI (v0.1 c1) (fun r4 h2 v3 => And.intro (show (608 : Int) ≠ 0 by decide) (And.intro (Int.le_refl _) (Good.mI v3 (fun r7 h5 v6 => And.intro (fun c8 => (v6.1 c8)) (fun c8 => And.intro (show (608 : Int) ≠ 0 by decide) (And.intro (Int.le_refl _) (Good.mV (v6.2 c8) (fun h9 v10 => v10))))))))))) (fun c1 => And.intro (show (608 : Int) ≠ 0 by decide) (And.intro (Int.le_refl _) (Good.mI (v0.2 c1) (fun r13 h11 v12 => And.intro (show (608 : Int) ≠ 0 by decide) (And.intro (Int.le_refl _) (Good.mI v12 (fun r16 h14 v15 => And.intro (fun c17 => (v15.1 c17)) (fun c17 => And.intro (show (608 : Int) ≠ 0 by decide) (And.intro (Int.le_refl _) (Good.mV (v15.2 c17) (fun h18 v19 => v19))))))))))))
set_option maxRecDepth 20000 in
theorem v10_readNode_150 {g : Gl} {d : Nat} {Q : Hp → Prop} {y1 y2 : Int} {h : Hp} (v0 : ∀ h1 : Hp, h1 = hup h 608 20 (w32 ((h 608 20) + 1)) →
 ((¬ y1 = 46 → L0 g d m10_readNode (retV Q) 194 [some (LR 10 608), none, some (LI y2), none, none] h1) ∧
 (y1 = 46 → Good g d i10_here [LR 10 608] S0 h1 S0 (retI (fun r5 h3 =>
 ((r5 = 46 → L0 g d m10_readNode (retV Q) 184 [some (LR 10 608), none, some (LI y2), none, none] h3) ∧
 (¬ r5 = 46 → Good g d i10_wrong [LR 10 608, LI 1, LI (h3 608 20)] S0 h3 S0 (retV (fun h7 =>
 L0 g d m10_readNode (retV Q) 184 [some (LR 10 608), none, some (LI y2), none, none] h7))))))))) : L0 g d m10_readNode (retV Q) 150 [some (LR 10 608), some (LI y1), some (LI y2), none, none] h :=
 LW.run 40 [(47, [true, false, false, false, false]), (81, [false, false, false, false, false]), (104, [true, true, false, false, false]), (123, [true, true, false, false, false]), (150, [true, true, true, false, false]), (184, [true, false, true, false, false]), (194, [true, false, true, false, false]), (206, [false, false, false, false, false]), (209, [true, false, false, false, false])] k10_readNode (And.intro (show (608 : Int) ≠ 0 by decide) (And.intro (show (608 : Int) ≠ 0 by decide) (And.intro (fun c2 => ((v0 _ rfl).1 c2)) (fun c2 => And.intro (show (608 : Int) ≠ 0 by decide) (And.intro (Int.le_refl _) (Good.mI ((v0 _ rfl).2 c2) (fun r5 h3 v4 => And.intro (fun c6 => (v4.1 c6)) (fun c6 => And.intro (show (608 : Int) ≠ 0 by decide) (And.intro (show (608 : Int) ≠ 0 by decide) (And.intro (Int.le_refl _) (Good.mV (v4.2 c6) (fun h7 v8 => v8))))))))))))
set_option maxRecDepth 20000 in
theorem v10_readNode_184 {g : Gl} {d : Nat} {Q : Hp → Prop} {y2 : Int} {h : Hp} (v0 : ∀ h1 : Hp, h1 = hup h 608 20 (w32 ((h 608 20) + 1)) →
 L0 g d m10_readNode (retV Q) 194 [some (LR 10 608), none, some (LI y2), none, none] h1) : L0 g d m10_readNode (retV Q) 184 [some (LR 10 608), none, some (LI y2), none, none] h :=
 LW.run 40 [(47, [true, false, false, false, false]), (81, [false, false, false, false, false]), (104, [true, true, false, false, false]), (123, [true, true, false, false, false]), (150, [true, true, true, false, false]), (184, [true, false, true, false, false]), (194, [true, false, true, false, false]), (206, [false, false, false, false, false]), (209, [true, false, false, false, false])] k10_readNode (And.intro (show (608 : Int) ≠ 0 by decide) (And.intro (show (608 : Int) ≠ 0 by decide) ((v0 _ rfl))))
set_option maxRecDepth 20000 in
theorem v10_readNode_194 {g : Gl} {d : Nat} {Q : Hp → Prop} {y2 : Int} {h : Hp} (v0 : Good g d i10_fine [LR 10 608] S0 h S0 (retI (fun r3 h1 =>
 ((r3 = 0 → L0 g d m10_readNode (retV Q) 206 [none, none, none, none, none] h1) ∧
 (¬ r3 = 0 → Good g d i10_push [LR 10 608, LI y2] S0 h1 S0 (retV (fun h5 =>
 L0 g d m10_readNode (retV Q) 206 [none, none, none, none, none] h5))))))) : L0 g d m10_readNode (retV Q) 194 [some (LR 10 608), none, some (LI y2), none, none] h :=
 LW.run 40 [(47, [true, false, false, false, false]), (81, [false, false, false, false, false]), (104, [true, true, false, false, false]), (123, [true, true, false, false, false]), (150, [true, true, true, false, false]), (184, [true, false, true, false, false]), (194, [true, false, true, false, false]), (206, [false, false, false, false, false]), (209, [true, false, false, false, false])] k10_readNode (And.intro (show (608 : Int) ≠ 0 by decide) (And.intro (Int.le_refl _) (Good.mI v0 (fun r3 h1 v2 => And.intro (fun c4 => (v2.1 c4)) (fun c4 => And.intro (show (608 : Int) ≠ 0 by decide) (And.intro (Int.le_refl _) (Good.mV (v2.2 c4) (fun h5 v6 => v6))))))))
set_option maxRecDepth 20000 in
theorem v10_readNode_206 {g : Gl} {d : Nat} {Q : Hp → Prop} {h : Hp} (v0 : Q h) : L0 g d m10_readNode (retV Q) 206 [none, none, none, none, none] h :=
 LW.run 40 [(47, [true, false, false, false, false]), (81, [false, false, false, false, false]), (104, [true, true, false, false, false]), (123, [true, true, false, false, false]), (150, [true, true, true, false, false]), (184, [true, false, true, false, false]), (194, [true, false, true, false, false]), (206, [false, false, false, false, false]), (209, [true, false, false, false, false])] k10_readNode (And.intro rfl v0)
set_option maxRecDepth 20000 in
theorem v10_readNode_209 {g : Gl} {d : Nat} {Q : Hp → Prop} {h : Hp} (v0 : Good g d i10_wrong [LR 10 608, LI 1, LI (h 608 20)] S0 h S0 (retV (fun h1 =>
 Q h1))) : L0 g d m10_readNode (retV Q) 209 [some (LR 10 608), none, none, none, none] h :=
 LW.run 40 [(47, [true, false, false, false, false]), (81, [false, false, false, false, false]), (104, [true, true, false, false, false]), (123, [true, true, false, false, false]), (150, [true, true, true, false, false]), (184, [true, false, true, false, false]), (194, [true, false, true, false, false]), (206, [false, false, false, false, false]), (209, [true, false, false, false, false])] k10_readNode (And.intro (show (608 : Int) ≠ 0 by decide) (And.intro (show (608 : Int) ≠ 0 by decide) (And.intro (Int.le_refl _) (Good.mV v0 (fun h1 v2 => And.intro rfl v2)))))
theorem g10_readNode {g : Gl} {d : Nat} {Q : LV → Hp → Prop} {h : Hp} (X : L0 g d m10_readNode Q 0 [some (LR 10 608), none, none, none, none] h) : Good g (d + 1) i10_readNode [LR 10 608] S0 h S0 Q := Good.body (M := m10_readNode) k10_readNode (Int.le_refl _) (Nat.le_of_ble_eq_true rfl) (fun hok => X )
set_option maxRecDepth 20000 in
theorem v10_readLetter {g : Gl} {d : Nat} {Q : Hp → Prop} {x1 : Int} {h : Hp} (v0 : ((x1 < (h 608 2) → Good g d i10_newNode [LR 10 608, LI 0] S0 h S0 (retI (fun r4 h2 =>
 Good g d i10_fine [LR 10 608] S0 h2 S0 (retI (fun r7 h5 =>
 ((¬ r7 = 0 → 0 ≤ r4 ∧ r4 < 121 ∧ ∀ h9 : Hp, h9 = hup h5 615 r4 x1 →
 ∀ h10 : Hp, h10 = hup h9 608 20 (w32 ((h9 608 20) + 1)) →
 Good g d i10_blanks [LR 10 608] S0 h10 S0 (retV (fun h11 =>
 Good g d i10_here [LR 10 608] S0 h11 S0 (retI (fun r15 h13 =>
 ((¬ r15 = 40 → 0 ≤ x1 ∧ x1 < 20 ∧ (((h13 611 x1) ≤ 0 → Good g d i10_ended [LR 10 608, LI r4] S0 h13 S0 (retV (fun h18 =>
 Q h18))) ∧
 (¬ (h13 611 x1) ≤ 0 → Good g d i10_wrong [LR 10 608, LI 6, LI (h13 608 20)] S0 h13 S0 (retV (fun h20 =>
 Q h20))))) ∧
 (r15 = 40 → 0 ≤ x1 ∧ x1 < 20 ∧ (((h13 611 x1) ≤ 0 → Good g d i10_wrong [LR 10 608, LI 6, LI (h13 608 20)] S0 h13 S0 (retV (fun h23 =>
 Q h23))) ∧
 (¬ (h13 611 x1) ≤ 0 → Good g d i10_deeper [LR 10 608] S0 h13 S0 (retV (fun h25 =>
 ∀ h27 : Hp, h27 = hup h25 608 20 (w32 ((h25 608 20) + 1)) →
 Good g d i10_push [LR 10 608, LI r4] S0 h27 S0 (retV (fun h28 =>
 Q h28))))))))))))) ∧
 (r7 = 0 → Q h5))))))) ∧
 (¬ x1 < (h 608 2) → Good g d i10_wrong [LR 10 608, LI 2, LI (h 608 20)] S0 h S0 (retV (fun h30 =>
 Q h30))))) : L0 g d m10_readLetter (retV Q) 0 [some (LR 10 608), some (LI x1), none, none] h :=
 LW.run 40 [] k10_readLetter (And.intro (show (608 : Int) ≠ 0 by decide) (And.intro (fun c1 => And.intro (show (608 : Int) ≠ 0 by decide) (And.intro (Int.le_refl _) (Good.mI (v0.1 c1) (fun r4 h2 v3 => And.intro (show (608 : Int) ≠ 0 by decide) (And.intro (Int.le_refl _) (Good.mI v3 (fun r7 h5 v6 => And.intro (fun c8 => And.intro (show (608 : Int) ≠ 0 by decide) (And.intro (show 4 ≤ (615 : Int) by decide) (And.intro (v6.1 c8).1 (And.intro (v6.1 c8).2.1 (And.intro (show (608 : Int) ≠ 0 by decide) (And.intro (show (608 : Int) ≠ 0 by decide) (And.intro (show (608 : Int) ≠ 0 by decide) (And.intro (Int.le_refl _) (Good.mV (((v6.1 c8).2.2 _ rfl) _ rfl) (fun h11 v12 => And.intro (show (608 : Int) ≠ 0 by decide) (And.intro (Int.le_refl _) (Good.mI v12 (fun r15 h13 v14 => And.intro (fun c16 => And.intro (show (608 : Int) ≠ 0 by decide) (And.intro (show (611 : Int) ≠ 0 by decide) (And.intro (v14.1 c16).1 (And.intro (v14.1 c16).2.1 (And.intro (fun c17 => And.intro (fun _ => And.intro (fun _ => And.intro (show (608 : Int) ≠ 0 by decide) (And.intro (Int.le_refl _) (Good.mV ((v14.1 c16).2.2.1 c17) (fun h18 v19 => And.intro rfl v19)))) (fun z => absurd (show (0 : Int) = 0 by decide) z)) (fun z => absurd (show (0 : Int) = 0 by decide) z)) (fun c17 => And.intro (fun z => absurd z (show ¬ (0 : Int) = 1 by decide)) (fun _ => And.intro (show (608 : Int) ≠ 0 by decide) (And.intro (show (608 : Int) ≠ 0 by decide) (And.intro (Int.le_refl _) (Good.mV ((v14.1 c16).2.2.2 c17) (fun h20 v21 => And.intro rfl v21))))))))))) (fun c16 => And.intro (show (608 : Int) ≠ 0 by decide) (And.intro (show (611 : Int) ≠ 0 by decide) (And.intro (v14.2 c16).1 (And.intro (v14.2 c16).2.1 (And.intro (fun c22 => And.intro (fun z => absurd z (show ¬ (1 : Int) = 0 by decide)) (fun _ => And.intro (show (608 : Int) ≠ 0 by decide) (And.intro (show (608 : Int) ≠ 0 by decide) (And.intro (Int.le_refl _) (Good.mV ((v14.2 c16).2.2.1 c22) (fun h23 v24 => And.intro rfl v24)))))) (fun c22 => And.intro (fun _ => And.intro (fun z => absurd z (show ¬ (1 : Int) = 0 by decide)) (fun _ => And.intro (show (608 : Int) ≠ 0 by decide) (And.intro (Int.le_refl _) (Good.mV ((v14.2 c16).2.2.2 c22) (fun h25 v26 => And.intro (show (608 : Int) ≠ 0 by decide) (And.intro (show (608 : Int) ≠ 0 by decide) (And.intro (show (608 : Int) ≠ 0 by decide) (And.intro (Int.le_refl _) (Good.mV (v26 _ rfl) (fun h28 v29 => And.intro rfl v29)))))))))) (fun z => absurd (show (1 : Int) = 1 by decide) z)))))))))))))))))))) (fun c8 => And.intro rfl (v6.2 c8))))))))) (fun c1 => And.intro (show (608 : Int) ≠ 0 by decide) (And.intro (show (608 : Int) ≠ 0 by decide) (And.intro (Int.le_refl _) (Good.mV (v0.2 c1) (fun h30 v31 => And.intro rfl v31)))))))
theorem g10_readLetter {g : Gl} {d : Nat} {Q : LV → Hp → Prop} {x1 : Int} {h : Hp} (X : inI x1 → L0 g d m10_readLetter Q 0 [some (LR 10 608), some (LI x1), none, none] h) : Good g (d + 1) i10_readLetter [LR 10 608, LI x1] S0 h S0 Q := Good.body (M := m10_readLetter) k10_readLetter (Int.le_refl _) (Nat.le_of_ble_eq_true rfl) (fun hok => X (hok _ (List.mem_cons_of_mem _ List.mem_cons_self)))
set_option maxRecDepth 20000 in
theorem v10_readHole {g : Gl} {d : Nat} {Q : Hp → Prop} {h : Hp} (v0 : Good g d i10_newNode [LR 10 608, LI 2] S0 h S0 (retI (fun r3 h1 =>
 Good g d i10_fine [LR 10 608] S0 h1 S0 (retI (fun r6 h4 =>
 ((¬ r6 = 0 → ∀ h8 : Hp, h8 = hup h4 608 20 (w32 ((h4 608 20) + 1)) →
 Good g d i10_here [LR 10 608] S0 h8 S0 (retI (fun r11 h9 =>
 Good g d i10_isDigit [LI r11] S0 h9 S0 (retI (fun r14 h12 =>
 ((r14 = 0 → L0 g d m10_readHole (retV Q) 57 [some (LR 10 608), some (LI r3), none, none, none, none, none] h12) ∧
 (¬ r14 = 0 → Good g d i10_here [LR 10 608] S0 h12 S0 (retI (fun r18 h16 =>
 0 ≤ r3 ∧ r3 < 121 ∧ ∀ h19 : Hp, h19 = hup h16 617 r3 (w32 (r18 - 48)) →
 ∀ h20 : Hp, h20 = hup h19 608 20 (w32 ((h19 608 20) + 1)) →
 L0 g d m10_readHole (retV Q) 57 [some (LR 10 608), some (LI r3), none, none, none, none, none] h20))))))))) ∧
 (r6 = 0 → Q h4))))))) : L0 g d m10_readHole (retV Q) 0 [some (LR 10 608), none, none, none, none, none, none] h :=
 LW.run 40 [(57, [true, true, false, false, false, false, false]), (135, [true, true, false, true, true, false, false]), (153, [true, true, false, false, true, true, false]), (183, [true, true, false, false, false, true, false]), (201, [true, true, true, false, false, false, false]), (227, [true, true, true, false, false, false, false])] k10_readHole (And.intro (show (608 : Int) ≠ 0 by decide) (And.intro (Int.le_refl _) (Good.mI v0 (fun r3 h1 v2 => And.intro (show (608 : Int) ≠ 0 by decide) (And.intro (Int.le_refl _) (Good.mI v2 (fun r6 h4 v5 => And.intro (fun c7 => And.intro (show (608 : Int) ≠ 0 by decide) (And.intro (show (608 : Int) ≠ 0 by decide) (And.intro (show (608 : Int) ≠ 0 by decide) (And.intro (Int.le_refl _) (Good.mI ((v5.1 c7) _ rfl) (fun r11 h9 v10 => And.intro (Int.le_refl _) (Good.mI v10 (fun r14 h12 v13 => And.intro (fun c15 => (v13.1 c15)) (fun c15 => And.intro (show (608 : Int) ≠ 0 by decide) (And.intro (show (608 : Int) ≠ 0 by decide) (And.intro (Int.le_refl _) (Good.mI (v13.2 c15) (fun r18 h16 v17 => And.intro (show 4 ≤ (617 : Int) by decide) (And.intro v17.1 (And.intro v17.2.1 (And.intro (show (608 : Int) ≠ 0 by decide) (And.intro (show (608 : Int) ≠ 0 by decide) (((v17.2.2 _ rfl) _ rfl))))))))))))))))))) (fun c7 => And.intro rfl (v5.2 c7)))))))))
set_option maxRecDepth 20000 in
theorem v10_readHole_57 {g : Gl} {d : Nat} {Q : Hp → Prop} {y1 : Int} {h : Hp} (v0 : Good g d i10_blanks [LR 10 608] S0 h S0 (retV (fun h1 =>
 Good g d i10_here [LR 10 608] S0 h1 S0 (retI (fun r5 h3 =>
 ((¬ r5 = 58 → L0 g d m10_readHole (retV Q) 201 [some (LR 10 608), some (LI y1), some (LI (h 608 20)), none, none, none, none] h3) ∧
 (r5 = 58 → ∀ h7 : Hp, h7 = hup h3 608 20 (w32 ((h3 608 20) + 1)) →
 Good g d i10_blanks [LR 10 608] S0 h7 S0 (retV (fun h8 =>
 Good g d i10_digitsFrom [LR 10 608, LI (h8 608 20)] S0 h8 S0 (retI (fun r12 h10 =>
 ((¬ r12 = 0 → ((r12 ≤ 18 → L0 g d m10_readHole (retV Q) 135 [some (LR 10 608), some (LI y1), none, some (LI r12), some (LI (h10 608 20)), none, none] h10) ∧
 (¬ r12 ≤ 18 → Good g d i10_wrong [LR 10 608, LI 3, LI (h10 608 20)] S0 h10 S0 (retV (fun h15 =>
 L0 g d m10_readHole (retV Q) 135 [some (LR 10 608), some (LI y1), none, some (LI r12), some (LI (h10 608 20)), none, none] h15))))) ∧
 (r12 = 0 → Good g d i10_wrong [LR 10 608, LI 1, LI (h10 608 20)] S0 h10 S0 (retV (fun h17 =>
 L0 g d m10_readHole (retV Q) 135 [some (LR 10 608), some (LI y1), none, some (LI r12), some (LI (h10 608 20)), none, none] h17))))))))))))))) : L0 g d m10_readHole (retV Q) 57 [some (LR 10 608), some (LI y1), none, none, none, none, none] h :=
 LW.run 40 [(57, [true, true, false, false, false, false, false]), (135, [true, true, false, true, true, false, false]), (153, [true, true, false, false, true, true, false]), (183, [true, true, false, false, false, true, false]), (201, [true, true, true, false, false, false, false]), (227, [true, true, true, false, false, false, false])] k10_readHole (And.intro (show (608 : Int) ≠ 0 by decide) (And.intro (show (608 : Int) ≠ 0 by decide) (And.intro (Int.le_refl _) (Good.mV v0 (fun h1 v2 => And.intro (show (608 : Int) ≠ 0 by decide) (And.intro (Int.le_refl _) (Good.mI v2 (fun r5 h3 v4 => And.intro (fun c6 => (v4.1 c6)) (fun c6 => And.intro (show (608 : Int) ≠ 0 by decide) (And.intro (show (608 : Int) ≠ 0 by decide) (And.intro (show (608 : Int) ≠ 0 by decide) (And.intro (Int.le_refl _) (Good.mV ((v4.2 c6) _ rfl) (fun h8 v9 => And.intro (show (608 : Int) ≠ 0 by decide) (And.intro (show (608 : Int) ≠ 0 by decide) (And.intro (Int.le_refl _) (Good.mI v9 (fun r12 h10 v11 => And.intro (show (608 : Int) ≠ 0 by decide) (And.intro (fun c13 => And.intro (fun c14 => ((v11.1 c13).1 c14)) (fun c14 => And.intro (show (608 : Int) ≠ 0 by decide) (And.intro (show (608 : Int) ≠ 0 by decide) (And.intro (Int.le_refl _) (Good.mV ((v11.1 c13).2 c14) (fun h15 v16 => v16)))))) (fun c13 => And.intro (show (608 : Int) ≠ 0 by decide) (And.intro (show (608 : Int) ≠ 0 by decide) (And.intro (Int.le_refl _) (Good.mV (v11.2 c13) (fun h17 v18 => v18))))))))))))))))))))))))
set_option maxRecDepth 20000 in
theorem v10_readHole_135 {g : Gl} {d : Nat} {Q : Hp → Prop} {y1 y3 y4 : Int} {h : Hp} (v0 : Good g d i10_fine [LR 10 608] S0 h S0 (retI (fun r3 h1 =>
 ((r3 = 0 → L0 g d m10_readHole (retV Q) 153 [some (LR 10 608), some (LI y1), none, none, some (LI y4), some (LL 0), none] h1) ∧
 (¬ r3 = 0 → Good g d i10_digits [LR 10 608, LI y3] S0 h1 S0 (retL (fun r7 h5 =>
 L0 g d m10_readHole (retV Q) 153 [some (LR 10 608), some (LI y1), none, none, some (LI y4), some (LL r7), none] h5))))))) : L0 g d m10_readHole (retV Q) 135 [some (LR 10 608), some (LI y1), none, some (LI y3), some (LI y4), none, none] h :=
 LW.run 40 [(57, [true, true, false, false, false, false, false]), (135, [true, true, false, true, true, false, false]), (153, [true, true, false, false, true, true, false]), (183, [true, true, false, false, false, true, false]), (201, [true, true, true, false, false, false, false]), (227, [true, true, true, false, false, false, false])] k10_readHole (And.intro (show (608 : Int) ≠ 0 by decide) (And.intro (Int.le_refl _) (Good.mI v0 (fun r3 h1 v2 => And.intro (fun c4 => (v2.1 c4)) (fun c4 => And.intro (show (608 : Int) ≠ 0 by decide) (And.intro (Int.le_refl _) (Good.mL (v2.2 c4) (fun r7 h5 v6 => v6))))))))
set_option maxRecDepth 20000 in
theorem v10_readHole_153 {g : Gl} {d : Nat} {Q : Hp → Prop} {y1 y4 y5 : Int} {h : Hp} (v0 : Good g d i10_fine [LR 10 608] S0 h S0 (retI (fun r3 h1 =>
 ((r3 = 0 → L0 g d m10_readHole (retV Q) 183 [some (LR 10 608), some (LI y1), none, none, none, some (LL y5), none] h1) ∧
 (¬ r3 = 0 → Good g d i10_in [LL y5, LL 0, LL (w32 ((h1 608 0) - 1))] S0 h1 S0 (retI (fun r7 h5 =>
 ((¬ r7 = 0 → L0 g d m10_readHole (retV Q) 183 [some (LR 10 608), some (LI y1), none, none, none, some (LL y5), none] h5) ∧
 (r7 = 0 → Good g d i10_wrong [LR 10 608, LI 3, LI y4] S0 h5 S0 (retV (fun h9 =>
 L0 g d m10_readHole (retV Q) 183 [some (LR 10 608), some (LI y1), none, none, none, some (LL y5), none] h9))))))))))) : L0 g d m10_readHole (retV Q) 153 [some (LR 10 608), some (LI y1), none, none, some (LI y4), some (LL y5), none] h :=
 LW.run 40 [(57, [true, true, false, false, false, false, false]), (135, [true, true, false, true, true, false, false]), (153, [true, true, false, false, true, true, false]), (183, [true, true, false, false, false, true, false]), (201, [true, true, true, false, false, false, false]), (227, [true, true, true, false, false, false, false])] k10_readHole (And.intro (show (608 : Int) ≠ 0 by decide) (And.intro (Int.le_refl _) (Good.mI v0 (fun r3 h1 v2 => And.intro (fun c4 => (v2.1 c4)) (fun c4 => And.intro (show (608 : Int) ≠ 0 by decide) (And.intro (Int.le_refl _) (Good.mI (v2.2 c4) (fun r7 h5 v6 => And.intro (fun c8 => (v6.1 c8)) (fun c8 => And.intro (show (608 : Int) ≠ 0 by decide) (And.intro (Int.le_refl _) (Good.mV (v6.2 c8) (fun h9 v10 => v10))))))))))))
set_option maxRecDepth 20000 in
theorem v10_readHole_183 {g : Gl} {d : Nat} {Q : Hp → Prop} {y1 y5 : Int} {h : Hp} (v0 : 0 ≤ y1 ∧ y1 < 121 ∧ ∀ h1 : Hp, h1 = hup h 618 y1 (w32 y5) →
 Good g d i10_blanks [LR 10 608] S0 h1 S0 (retV (fun h2 =>
 L0 g d m10_readHole (retV Q) 201 [some (LR 10 608), some (LI y1), some (LI (h1 608 20)), none, none, none, none] h2))) : L0 g d m10_readHole (retV Q) 183 [some (LR 10 608), some (LI y1), none, none, none, some (LL y5), none] h :=
 LW.run 40 [(57, [true, true, false, false, false, false, false]), (135, [true, true, false, true, true, false, false]), (153, [true, true, false, false, true, true, false]), (183, [true, true, false, false, false, true, false]), (201, [true, true, true, false, false, false, false]), (227, [true, true, true, false, false, false, false])] k10_readHole (And.intro (show (608 : Int) ≠ 0 by decide) (And.intro (show 4 ≤ (618 : Int) by decide) (And.intro v0.1 (And.intro v0.2.1 (And.intro (show (608 : Int) ≠ 0 by decide) (And.intro (show (608 : Int) ≠ 0 by decide) (And.intro (Int.le_refl _) (Good.mV (v0.2.2 _ rfl) (fun h2 v3 => v3)))))))))
set_option maxRecDepth 20000 in
theorem v10_readHole_201 {g : Gl} {d : Nat} {Q : Hp → Prop} {y1 y2 : Int} {h : Hp} (v0 : Good g d i10_fine [LR 10 608] S0 h S0 (retI (fun r3 h1 =>
 ((r3 = 0 → L0 g d m10_readHole (retV Q) 227 [some (LR 10 608), some (LI y1), some (LI y2), none, none, none, none] h1) ∧
 (¬ r3 = 0 → Good g d i10_here [LR 10 608] S0 h1 S0 (retI (fun r7 h5 =>
 ((¬ r7 = 91 → L0 g d m10_readHole (retV Q) 227 [some (LR 10 608), some (LI y1), some (LI y2), none, none, none, none] h5) ∧
 (r7 = 91 → Good g d i10_readSpan [LR 10 608, LI y1] S0 h5 S0 (retV (fun h9 =>
 L0 g d m10_readHole (retV Q) 227 [some (LR 10 608), some (LI y1), some (LI (h9 608 20)), none, none, none, none] h9))))))))))) : L0 g d m10_readHole (retV Q) 201 [some (LR 10 608), some (LI y1), some (LI y2), none, none, none, none] h :=
 LW.run 40 [(57, [true, true, false, false, false, false, false]), (135, [true, true, false, true, true, false, false]), (153, [true, true, false, false, true, true, false]), (183, [true, true, false, false, false, true, false]), (201, [true, true, true, false, false, false, false]), (227, [true, true, true, false, false, false, false])] k10_readHole (And.intro (show (608 : Int) ≠ 0 by decide) (And.intro (Int.le_refl _) (Good.mI v0 (fun r3 h1 v2 => And.intro (fun c4 => (v2.1 c4)) (fun c4 => And.intro (show (608 : Int) ≠ 0 by decide) (And.intro (Int.le_refl _) (Good.mI (v2.2 c4) (fun r7 h5 v6 => And.intro (fun c8 => (v6.1 c8)) (fun c8 => And.intro (show (608 : Int) ≠ 0 by decide) (And.intro (Int.le_refl _) (Good.mV (v6.2 c8) (fun h9 v10 => And.intro (show (608 : Int) ≠ 0 by decide) (v10)))))))))))))
set_option maxRecDepth 20000 in
theorem v10_readHole_227 {g : Gl} {d : Nat} {Q : Hp → Prop} {y1 y2 : Int} {h : Hp} (v0 : ∀ h1 : Hp, h1 = hup h 608 20 y2 →
 Good g d i10_fine [LR 10 608] S0 h1 S0 (retI (fun r4 h2 =>
 ((r4 = 0 → Q h2) ∧
 (¬ r4 = 0 → Good g d i10_ended [LR 10 608, LI y1] S0 h2 S0 (retV (fun h6 =>
 Q h6))))))) : L0 g d m10_readHole (retV Q) 227 [some (LR 10 608), some (LI y1), some (LI y2), none, none, none, none] h :=
 LW.run 40 [(57, [true, true, false, false, false, false, false]), (135, [true, true, false, true, true, false, false]), (153, [true, true, false, false, true, true, false]), (183, [true, true, false, false, false, true, false]), (201, [true, true, true, false, false, false, false]), (227, [true, true, true, false, false, false, false])] k10_readHole (And.intro (show (608 : Int) ≠ 0 by decide) (And.intro (show (608 : Int) ≠ 0 by decide) (And.intro (Int.le_refl _) (Good.mI (v0 _ rfl) (fun r4 h2 v3 => And.intro (fun c5 => And.intro rfl (v3.1 c5)) (fun c5 => And.intro (show (608 : Int) ≠ 0 by decide) (And.intro (Int.le_refl _) (Good.mV (v3.2 c5) (fun h6 v7 => And.intro rfl v7)))))))))
theorem g10_readHole {g : Gl} {d : Nat} {Q : LV → Hp → Prop} {h : Hp} (X : L0 g d m10_readHole Q 0 [some (LR 10 608), none, none, none, none, none, none] h) : Good g (d + 1) i10_readHole [LR 10 608] S0 h S0 Q := Good.body (M := m10_readHole) k10_readHole (Int.le_refl _) (Nat.le_of_ble_eq_true rfl) (fun hok => X )
set_option maxRecDepth 20000 in
theorem v10_readSpan {g : Gl} {d : Nat} {Q : Hp → Prop} {x1 : Int} {h : Hp} (v0 : ∀ h1 : Hp, h1 = hup h 608 20 (w32 ((h 608 20) + 1)) →
 Good g d i10_blanks [LR 10 608] S0 h1 S0 (retV (fun h2 =>
 0 ≤ x1 ∧ x1 < 121 ∧ ∀ h4 : Hp, h4 = hup h2 619 x1 1 →
 Good g d i10_number [LR 10 608, LI 0] S0 h4 S0 (retL (fun r7 h5 =>
 ∀ h8 : Hp, h8 = hup h5 620 x1 r7 →
 Good g d i10_blanks [LR 10 608] S0 h8 S0 (retV (fun h9 =>
 Good g d i10_take [LR 10 608, LI 126] S0 h9 S0 (retV (fun h11 =>
 Good g d i10_blanks [LR 10 608] S0 h11 S0 (retV (fun h13 =>
 Good g d i10_fine [LR 10 608] S0 h13 S0 (retI (fun r17 h15 =>
 ((r17 = 0 → ∀ h19 : Hp, h19 = hup h15 621 x1 0 →
 Good g d i10_blanks [LR 10 608] S0 h19 S0 (retV (fun h20 =>
 Good g d i10_take [LR 10 608, LI 93] S0 h20 S0 (retV (fun h22 =>
 Q h22))))) ∧
 (¬ r17 = 0 → Good g d i10_number [LR 10 608, LI 0] S0 h15 S0 (retL (fun r26 h24 =>
 ∀ h27 : Hp, h27 = hup h24 621 x1 r26 →
 Good g d i10_blanks [LR 10 608] S0 h27 S0 (retV (fun h28 =>
 Good g d i10_take [LR 10 608, LI 93] S0 h28 S0 (retV (fun h30 =>
 Q h30))))))))))))))))))))) : L0 g d m10_readSpan (retV Q) 0 [some (LR 10 608), some (LI x1)] h :=
 LW.run 40 [] k10_readSpan (And.intro (show (608 : Int) ≠ 0 by decide) (And.intro (show (608 : Int) ≠ 0 by decide) (And.intro (show (608 : Int) ≠ 0 by decide) (And.intro (Int.le_refl _) (Good.mV (v0 _ rfl) (fun h2 v3 => And.intro (show (608 : Int) ≠ 0 by decide) (And.intro (show (619 : Int) ≠ 0 by decide) (And.intro v3.1 (And.intro v3.2.1 (And.intro (Or.inr rfl) (And.intro (show (608 : Int) ≠ 0 by decide) (And.intro (show (608 : Int) ≠ 0 by decide) (And.intro (Int.le_refl _) (Good.mL (v3.2.2 _ rfl) (fun r7 h5 v6 => And.intro (show (620 : Int) ≠ 0 by decide) (And.intro v3.1 (And.intro v3.2.1 (And.intro (show (608 : Int) ≠ 0 by decide) (And.intro (Int.le_refl _) (Good.mV (v6 _ rfl) (fun h9 v10 => And.intro (show (608 : Int) ≠ 0 by decide) (And.intro (Int.le_refl _) (Good.mV v10 (fun h11 v12 => And.intro (show (608 : Int) ≠ 0 by decide) (And.intro (Int.le_refl _) (Good.mV v12 (fun h13 v14 => And.intro (show (608 : Int) ≠ 0 by decide) (And.intro (show (608 : Int) ≠ 0 by decide) (And.intro (Int.le_refl _) (Good.mI v14 (fun r17 h15 v16 => And.intro (fun c18 => And.intro (show (621 : Int) ≠ 0 by decide) (And.intro v3.1 (And.intro v3.2.1 (And.intro (show (608 : Int) ≠ 0 by decide) (And.intro (Int.le_refl _) (Good.mV ((v16.1 c18) _ rfl) (fun h20 v21 => And.intro (show (608 : Int) ≠ 0 by decide) (And.intro (Int.le_refl _) (Good.mV v21 (fun h22 v23 => And.intro rfl v23)))))))))) (fun c18 => And.intro (show (608 : Int) ≠ 0 by decide) (And.intro (Int.le_refl _) (Good.mL (v16.2 c18) (fun r26 h24 v25 => And.intro (show (621 : Int) ≠ 0 by decide) (And.intro v3.1 (And.intro v3.2.1 (And.intro (show (608 : Int) ≠ 0 by decide) (And.intro (Int.le_refl _) (Good.mV (v25 _ rfl) (fun h28 v29 => And.intro (show (608 : Int) ≠ 0 by decide) (And.intro (Int.le_refl _) (Good.mV v29 (fun h30 v31 => And.intro rfl v31))))))))))))))))))))))))))))))))))))))))))))
theorem g10_readSpan {g : Gl} {d : Nat} {Q : LV → Hp → Prop} {x1 : Int} {h : Hp} (X : inI x1 → L0 g d m10_readSpan Q 0 [some (LR 10 608), some (LI x1)] h) : Good g (d + 1) i10_readSpan [LR 10 608, LI x1] S0 h S0 Q := Good.body (M := m10_readSpan) k10_readSpan (Int.le_refl _) (Nat.le_of_ble_eq_true rfl) (fun hok => X (hok _ (List.mem_cons_of_mem _ List.mem_cons_self)))
set_option maxRecDepth 20000 in
theorem v10_take {g : Gl} {d : Nat} {Q : Hp → Prop} {x1 : Int} {h : Hp} (v0 : Good g d i10_fine [LR 10 608] S0 h S0 (retI (fun r3 h1 =>
 ((r3 = 0 → Q h1) ∧
 (¬ r3 = 0 → Good g d i10_here [LR 10 608] S0 h1 S0 (retI (fun r7 h5 =>
 ((¬ r7 = x1 → Good g d i10_wrong [LR 10 608, LI 1, LI (h5 608 20)] S0 h5 S0 (retV (fun h9 =>
 Q h9))) ∧
 (r7 = x1 → ∀ h11 : Hp, h11 = hup h5 608 20 (w32 ((h5 608 20) + 1)) →
 Q h11))))))))) : L0 g d m10_take (retV Q) 0 [some (LR 10 608), some (LI x1)] h :=
 LW.run 40 [] k10_take (And.intro (show (608 : Int) ≠ 0 by decide) (And.intro (Int.le_refl _) (Good.mI v0 (fun r3 h1 v2 => And.intro (fun c4 => And.intro rfl (v2.1 c4)) (fun c4 => And.intro (show (608 : Int) ≠ 0 by decide) (And.intro (Int.le_refl _) (Good.mI (v2.2 c4) (fun r7 h5 v6 => And.intro (fun c8 => And.intro (show (608 : Int) ≠ 0 by decide) (And.intro (show (608 : Int) ≠ 0 by decide) (And.intro (Int.le_refl _) (Good.mV (v6.1 c8) (fun h9 v10 => And.intro rfl v10))))) (fun c8 => And.intro (show (608 : Int) ≠ 0 by decide) (And.intro (show (608 : Int) ≠ 0 by decide) (And.intro rfl ((v6.2 c8) _ rfl))))))))))))
theorem g10_take {g : Gl} {d : Nat} {Q : LV → Hp → Prop} {x1 : Int} {h : Hp} (X : inI x1 → L0 g d m10_take Q 0 [some (LR 10 608), some (LI x1)] h) : Good g (d + 1) i10_take [LR 10 608, LI x1] S0 h S0 Q := Good.body (M := m10_take) k10_take (Int.le_refl _) (Nat.le_of_ble_eq_true rfl) (fun hok => X (hok _ (List.mem_cons_of_mem _ List.mem_cons_self)))
set_option maxRecDepth 20000 in
theorem v10_ended {g : Gl} {d : Nat} {Q : Hp → Prop} {x1 : Int} {h : Hp} (v0 : 0 ≤ x1 ∧ x1 < 121 ∧ ∀ h1 : Hp, h1 = hup h 622 x1 (h 608 17) →
 ∀ h2 : Hp, h2 = hup h1 608 28 0 →
 L0 g d m10_ended (retV Q) 17 [some (LR 10 608), none, some (LI 1), none, none, none, none] h2) : L0 g d m10_ended (retV Q) 0 [some (LR 10 608), some (LI x1), none, none, none, none, none] h :=
 LW.run 40 [(17, [true, false, true, false, false, false, false]), (203, [true, false, true, false, true, true, false])] k10_ended (And.intro (show (608 : Int) ≠ 0 by decide) (And.intro (show (608 : Int) ≠ 0 by decide) (And.intro (show 4 ≤ (622 : Int) by decide) (And.intro v0.1 (And.intro v0.2.1 (And.intro (show (608 : Int) ≠ 0 by decide) (And.intro (Or.inl rfl) (((v0.2.2 _ rfl) _ rfl)))))))))
set_option maxRecDepth 20000 in
theorem v10_ended_17 {g : Gl} {d : Nat} {Q : Hp → Prop} {y2 : Int} {h : Hp} (v0 : ((y2 = 0 → Q h) ∧
 (¬ y2 = 0 → Good g d i10_fine [LR 10 608] S0 h S0 (retI (fun r4 h2 =>
 ((r4 = 0 → Q h2) ∧
 (¬ r4 = 0 → (((h2 608 27) ≤ 0 → Q h2) ∧
 (¬ (h2 608 27) ≤ 0 → 0 ≤ ((w32 ((h2 608 27) - 1))) ∧ ((w32 ((h2 608 27) - 1))) < 200 ∧ 0 ≤ ((h2 623 (w32 ((h2 608 27) - 1)))) ∧ ((h2 623 (w32 ((h2 608 27) - 1)))) < 121 ∧ (((h2 614 (h2 623 (w32 ((h2 608 27) - 1)))) = 0 → ∀ h8 : Hp, h8 = hup h2 624 (w32 ((h2 608 27) - 1)) (w32 ((h2 624 (w32 ((h2 608 27) - 1))) + 1)) →
 Good g d i10_blanks [LR 10 608] S0 h8 S0 (retV (fun h9 =>
 0 ≤ ((h9 615 (h2 623 (w32 ((h2 608 27) - 1))))) ∧ ((h9 615 (h2 623 (w32 ((h2 608 27) - 1))))) < 20 ∧ ((¬ (h9 624 (w32 ((h2 608 27) - 1))) = (h9 611 (h9 615 (h2 623 (w32 ((h2 608 27) - 1))))) → Good g d i10_here [LR 10 608] S0 h9 S0 (retI (fun r14 h12 =>
 ((¬ r14 = 44 → ((¬ r14 = 41 → Good g d i10_wrong [LR 10 608, LI 1, LI (h12 608 20)] S0 h12 S0 (retV (fun h17 =>
 L0 g d m10_ended (retV Q) 203 [some (LR 10 608), none, some (LI y2), none, some (LI (h2 623 (w32 ((h2 608 27) - 1)))), some (LI 0), none] h17))) ∧
 (r14 = 41 → Good g d i10_wrong [LR 10 608, LI 6, LI (h12 608 20)] S0 h12 S0 (retV (fun h19 =>
 L0 g d m10_ended (retV Q) 203 [some (LR 10 608), none, some (LI y2), none, some (LI (h2 623 (w32 ((h2 608 27) - 1)))), some (LI 0), none] h19))))) ∧
 (r14 = 44 → ∀ h21 : Hp, h21 = hup h12 608 20 (w32 ((h12 608 20) + 1)) →
 L0 g d m10_ended (retV Q) 203 [some (LR 10 608), none, some (LI y2), none, some (LI (h2 623 (w32 ((h2 608 27) - 1)))), some (LI 0), none] h21))))) ∧
 ((h9 624 (w32 ((h2 608 27) - 1))) = (h9 611 (h9 615 (h2 623 (w32 ((h2 608 27) - 1))))) → Good g d i10_here [LR 10 608] S0 h9 S0 (retI (fun r24 h22 =>
 ((¬ r24 = 41 → ((¬ r24 = 44 → Good g d i10_wrong [LR 10 608, LI 1, LI (h22 608 20)] S0 h22 S0 (retV (fun h27 =>
 L0 g d m10_ended (retV Q) 203 [some (LR 10 608), none, some (LI y2), none, some (LI (h2 623 (w32 ((h2 608 27) - 1)))), some (LI 1), none] h27))) ∧
 (r24 = 44 → Good g d i10_wrong [LR 10 608, LI 6, LI (h22 608 20)] S0 h22 S0 (retV (fun h29 =>
 L0 g d m10_ended (retV Q) 203 [some (LR 10 608), none, some (LI y2), none, some (LI (h2 623 (w32 ((h2 608 27) - 1)))), some (LI 1), none] h29))))) ∧
 (r24 = 41 → ∀ h31 : Hp, h31 = hup h22 608 20 (w32 ((h22 608 20) + 1)) →
 L0 g d m10_ended (retV Q) 203 [some (LR 10 608), none, some (LI y2), none, some (LI (h2 623 (w32 ((h2 608 27) - 1)))), some (LI 1), none] h31))))))))) ∧
 (¬ (h2 614 (h2 623 (w32 ((h2 608 27) - 1)))) = 0 → ∀ h32 : Hp, h32 = hup h2 608 27 (w32 ((h2 608 27) - 1)) →
 ∀ h33 : Hp, h33 = hup h32 608 24 (w32 ((h32 608 24) - 1)) →
 ∀ h34 : Hp, h34 = hup h33 622 (h2 623 (w32 ((h2 608 27) - 1))) (h33 608 17) →
 L0 g d m10_ended (retV Q) 17 [some (LR 10 608), none, some (LI y2), none, none, none, none] h34))))))))))) : L0 g d m10_ended (retV Q) 17 [some (LR 10 608), none, some (LI y2), none, none, none, none] h :=
 LW.run 40 [(17, [true, false, true, false, false, false, false]), (203, [true, false, true, false, true, true, false])] k10_ended (And.intro (fun c1 => And.intro rfl (v0.1 c1)) (fun c1 => And.intro (show (608 : Int) ≠ 0 by decide) (And.intro (Int.le_refl _) (Good.mI (v0.2 c1) (fun r4 h2 v3 => And.intro (fun c5 => And.intro rfl (v3.1 c5)) (fun c5 => And.intro (show (608 : Int) ≠ 0 by decide) (And.intro (fun c6 => And.intro rfl ((v3.2 c5).1 c6)) (fun c6 => And.intro (show (608 : Int) ≠ 0 by decide) (And.intro (show (608 : Int) ≠ 0 by decide) (And.intro (show (623 : Int) ≠ 0 by decide) (And.intro ((v3.2 c5).2 c6).1 (And.intro ((v3.2 c5).2 c6).2.1 (And.intro (show (608 : Int) ≠ 0 by decide) (And.intro (show (614 : Int) ≠ 0 by decide) (And.intro ((v3.2 c5).2 c6).2.2.1 (And.intro ((v3.2 c5).2 c6).2.2.2.1 (And.intro (fun c7 => And.intro (show (608 : Int) ≠ 0 by decide) (And.intro (show (624 : Int) ≠ 0 by decide) (And.intro ((v3.2 c5).2 c6).1 (And.intro ((v3.2 c5).2 c6).2.1 (And.intro (show 4 ≤ (624 : Int) by decide) (And.intro ((v3.2 c5).2 c6).1 (And.intro ((v3.2 c5).2 c6).2.1 (And.intro (show (608 : Int) ≠ 0 by decide) (And.intro (Int.le_refl _) (Good.mV ((((v3.2 c5).2 c6).2.2.2.2.1 c7) _ rfl) (fun h9 v10 => And.intro (show (608 : Int) ≠ 0 by decide) (And.intro (show (624 : Int) ≠ 0 by decide) (And.intro ((v3.2 c5).2 c6).1 (And.intro ((v3.2 c5).2 c6).2.1 (And.intro (show (608 : Int) ≠ 0 by decide) (And.intro (show (608 : Int) ≠ 0 by decide) (And.intro (show (615 : Int) ≠ 0 by decide) (And.intro ((v3.2 c5).2 c6).2.2.1 (And.intro ((v3.2 c5).2 c6).2.2.2.1 (And.intro (show (611 : Int) ≠ 0 by decide) (And.intro v10.1 (And.intro v10.2.1 (And.intro (fun c11 => And.intro (show (608 : Int) ≠ 0 by decide) (And.intro (Int.le_refl _) (Good.mI (v10.2.2.1 c11) (fun r14 h12 v13 => And.intro (fun _ => And.intro (fun c15 => And.intro (fun _ => And.intro (fun c16 => And.intro (show (608 : Int) ≠ 0 by decide) (And.intro (show (608 : Int) ≠ 0 by decide) (And.intro (Int.le_refl _) (Good.mV ((v13.1 c15).1 c16) (fun h17 v18 => v18))))) (fun c16 => And.intro (show (608 : Int) ≠ 0 by decide) (And.intro (show (608 : Int) ≠ 0 by decide) (And.intro (Int.le_refl _) (Good.mV ((v13.1 c15).2 c16) (fun h19 v20 => v20)))))) (fun z => absurd (show (0 : Int) = 0 by decide) z)) (fun c15 => And.intro (show (608 : Int) ≠ 0 by decide) (And.intro (show (608 : Int) ≠ 0 by decide) (((v13.2 c15) _ rfl))))) (fun z => absurd (show (0 : Int) = 0 by decide) z))))) (fun c11 => And.intro (show (608 : Int) ≠ 0 by decide) (And.intro (Int.le_refl _) (Good.mI (v10.2.2.2 c11) (fun r24 h22 v23 => And.intro (fun z => absurd z (show ¬ (1 : Int) = 0 by decide)) (fun _ => And.intro (fun c25 => And.intro (fun z => absurd z (show ¬ (1 : Int) = 0 by decide)) (fun _ => And.intro (fun c26 => And.intro (show (608 : Int) ≠ 0 by decide) (And.intro (show (608 : Int) ≠ 0 by decide) (And.intro (Int.le_refl _) (Good.mV ((v23.1 c25).1 c26) (fun h27 v28 => v28))))) (fun c26 => And.intro (show (608 : Int) ≠ 0 by decide) (And.intro (show (608 : Int) ≠ 0 by decide) (And.intro (Int.le_refl _) (Good.mV ((v23.1 c25).2 c26) (fun h29 v30 => v30))))))) (fun c25 => And.intro (show (608 : Int) ≠ 0 by decide) (And.intro (show (608 : Int) ≠ 0 by decide) (((v23.2 c25) _ rfl)))))))))))))))))))))))))))))))) (fun c7 => And.intro (show (608 : Int) ≠ 0 by decide) (And.intro (show (608 : Int) ≠ 0 by decide) (And.intro (show (608 : Int) ≠ 0 by decide) (And.intro (show (608 : Int) ≠ 0 by decide) (And.intro (show (608 : Int) ≠ 0 by decide) (And.intro (show (608 : Int) ≠ 0 by decide) (And.intro (show 4 ≤ (622 : Int) by decide) (And.intro ((v3.2 c5).2 c6).2.2.1 (And.intro ((v3.2 c5).2 c6).2.2.2.1 (((((((v3.2 c5).2 c6).2.2.2.2.2 c7) _ rfl) _ rfl) _ rfl))))))))))))))))))))))))))))
set_option maxRecDepth 20000 in
theorem v10_ended_203 {g : Gl} {d : Nat} {Q : Hp → Prop} {y2 y4 y5 : Int} {h : Hp} (v0 : ((y5 = 0 → ∀ h2 : Hp, h2 = hup h 608 28 1 →
 L0 g d m10_ended (retV Q) 17 [some (LR 10 608), none, some (LI 0), none, none, none, none] h2) ∧
 (¬ y5 = 0 → ∀ h3 : Hp, h3 = hup h 608 27 (w32 ((h 608 27) - 1)) →
 ∀ h4 : Hp, h4 = hup h3 608 24 (w32 ((h3 608 24) - 1)) →
 0 ≤ y4 ∧ y4 < 121 ∧ ∀ h5 : Hp, h5 = hup h4 622 y4 (h4 608 17) →
 L0 g d m10_ended (retV Q) 17 [some (LR 10 608), none, some (LI y2), none, none, none, none] h5))) : L0 g d m10_ended (retV Q) 203 [some (LR 10 608), none, some (LI y2), none, some (LI y4), some (LI y5), none] h :=
 LW.run 40 [(17, [true, false, true, false, false, false, false]), (203, [true, false, true, false, true, true, false])] k10_ended (And.intro (fun c1 => And.intro (show (608 : Int) ≠ 0 by decide) (And.intro (Or.inr rfl) (((v0.1 c1) _ rfl)))) (fun c1 => And.intro (show (608 : Int) ≠ 0 by decide) (And.intro (show (608 : Int) ≠ 0 by decide) (And.intro (show (608 : Int) ≠ 0 by decide) (And.intro (show (608 : Int) ≠ 0 by decide) (And.intro (show (608 : Int) ≠ 0 by decide) (And.intro (show (608 : Int) ≠ 0 by decide) (And.intro (show 4 ≤ (622 : Int) by decide) (And.intro (((v0.2 c1) _ rfl) _ rfl).1 (And.intro (((v0.2 c1) _ rfl) _ rfl).2.1 (((((v0.2 c1) _ rfl) _ rfl).2.2 _ rfl))))))))))))
theorem g10_ended {g : Gl} {d : Nat} {Q : LV → Hp → Prop} {x1 : Int} {h : Hp} (X : inI x1 → L0 g d m10_ended Q 0 [some (LR 10 608), some (LI x1), none, none, none, none, none] h) : Good g (d + 1) i10_ended [LR 10 608, LI x1] S0 h S0 Q := Good.body (M := m10_ended) k10_ended (Int.le_refl _) (Nat.le_of_ble_eq_true rfl) (fun hok => X (hok _ (List.mem_cons_of_mem _ List.mem_cons_self)))
set_option maxRecDepth 20000 in
theorem v10_read {g : Gl} {d : Nat} {Q : Hp → Prop} {x1 x2 : Int} {h : Hp} (v0 : (x1 = 0 ∨ x1 = 1) ∧ ∀ h1 : Hp, h1 = hup h 608 19 x1 →
 ∀ h2 : Hp, h2 = hup h1 608 18 x2 →
 ∀ h3 : Hp, h3 = hup h2 608 17 0 →
 ∀ h4 : Hp, h4 = hup h3 608 20 0 →
 ∀ h5 : Hp, h5 = hup h4 608 21 0 →
 ∀ h6 : Hp, h6 = hup h5 608 24 0 →
 ∀ h7 : Hp, h7 = hup h6 608 27 0 →
 ∀ h8 : Hp, h8 = hup h7 608 28 1 →
 L0 g d m10_read (retV Q) 40 [some (LR 10 608), none, none] h8) : L0 g d m10_read (retV Q) 0 [some (LR 10 608), some (LI x1), some (LI x2)] h :=
 LW.run 40 [(40, [true, false, false]), (61, [true, false, false]), (73, [true, false, false]), (104, [true, false, false])] k10_read (And.intro (show (608 : Int) ≠ 0 by decide) (And.intro v0.1 (And.intro (show (608 : Int) ≠ 0 by decide) (And.intro (show (608 : Int) ≠ 0 by decide) (And.intro (show (608 : Int) ≠ 0 by decide) (And.intro (show (608 : Int) ≠ 0 by decide) (And.intro (show (608 : Int) ≠ 0 by decide) (And.intro (show (608 : Int) ≠ 0 by decide) (And.intro (show (608 : Int) ≠ 0 by decide) (And.intro (Or.inr rfl) (((((((((v0.2 _ rfl) _ rfl) _ rfl) _ rfl) _ rfl) _ rfl) _ rfl) _ rfl))))))))))))
set_option maxRecDepth 20000 in
theorem v10_read_40 {g : Gl} {d : Nat} {Q : Hp → Prop} {h : Hp} (v0 : Good g d i10_fine [LR 10 608] S0 h S0 (retI (fun r3 h1 =>
 ((r3 = 0 → L0 g d m10_read (retV Q) 73 [some (LR 10 608), none, none] h1) ∧
 (¬ r3 = 0 → (((h1 608 28) = 0 ∨ (h1 608 28) = 1) → ((¬ (h1 608 28) = 0 → L0 g d m10_read (retV Q) 61 [some (LR 10 608), none, none] h1) ∧
 ((h1 608 28) = 0 → (((h1 608 27) ≤ 0 → L0 g d m10_read (retV Q) 73 [some (LR 10 608), none, none] h1) ∧
 (¬ (h1 608 27) ≤ 0 → L0 g d m10_read (retV Q) 61 [some (LR 10 608), none, none] h1)))))))))) : L0 g d m10_read (retV Q) 40 [some (LR 10 608), none, none] h :=
 LW.run 40 [(40, [true, false, false]), (61, [true, false, false]), (73, [true, false, false]), (104, [true, false, false])] k10_read (And.intro (show (608 : Int) ≠ 0 by decide) (And.intro (Int.le_refl _) (Good.mI v0 (fun r3 h1 v2 => And.intro (fun c4 => (v2.1 c4)) (fun c4 => And.intro (show (608 : Int) ≠ 0 by decide) (fun c5 => And.intro (fun c6 => (((v2.2 c4) c5).1 c6)) (fun c6 => And.intro (show (608 : Int) ≠ 0 by decide) (And.intro (fun c7 => ((((v2.2 c4) c5).2 c6).1 c7)) (fun c7 => ((((v2.2 c4) c5).2 c6).2 c7))))))))))
set_option maxRecDepth 20000 in
theorem v10_read_61 {g : Gl} {d : Nat} {Q : Hp → Prop} {h : Hp} (v0 : ∀ h1 : Hp, h1 = hup h 608 28 1 →
 Good g d i10_readNode [LR 10 608] S0 h1 S0 (retV (fun h2 =>
 L0 g d m10_read (retV Q) 40 [some (LR 10 608), none, none] h2))) : L0 g d m10_read (retV Q) 61 [some (LR 10 608), none, none] h :=
 LW.run 40 [(40, [true, false, false]), (61, [true, false, false]), (73, [true, false, false]), (104, [true, false, false])] k10_read (And.intro (show (608 : Int) ≠ 0 by decide) (And.intro (Or.inr rfl) (And.intro (show (608 : Int) ≠ 0 by decide) (And.intro (Int.le_refl _) (Good.mV (v0 _ rfl) (fun h2 v3 => v3))))))
set_option maxRecDepth 20000 in
theorem v10_read_73 {g : Gl} {d : Nat} {Q : Hp → Prop} {h : Hp} (v0 : Good g d i10_blanks [LR 10 608] S0 h S0 (retV (fun h1 =>
 Good g d i10_fine [LR 10 608] S0 h1 S0 (retI (fun r5 h3 =>
 ((r5 = 0 → L0 g d m10_read (retV Q) 104 [some (LR 10 608), none, none] h3) ∧
 (¬ r5 = 0 → (((h3 608 7) ≤ (h3 608 20) → L0 g d m10_read (retV Q) 104 [some (LR 10 608), none, none] h3) ∧
 (¬ (h3 608 7) ≤ (h3 608 20) → Good g d i10_wrong [LR 10 608, LI 1, LI (h3 608 20)] S0 h3 S0 (retV (fun h8 =>
 L0 g d m10_read (retV Q) 104 [some (LR 10 608), none, none] h8))))))))))) : L0 g d m10_read (retV Q) 73 [some (LR 10 608), none, none] h :=
 LW.run 40 [(40, [true, false, false]), (61, [true, false, false]), (73, [true, false, false]), (104, [true, false, false])] k10_read (And.intro (show (608 : Int) ≠ 0 by decide) (And.intro (Int.le_refl _) (Good.mV v0 (fun h1 v2 => And.intro (show (608 : Int) ≠ 0 by decide) (And.intro (Int.le_refl _) (Good.mI v2 (fun r5 h3 v4 => And.intro (fun c6 => (v4.1 c6)) (fun c6 => And.intro (show (608 : Int) ≠ 0 by decide) (And.intro (show (608 : Int) ≠ 0 by decide) (And.intro (fun c7 => ((v4.2 c6).1 c7)) (fun c7 => And.intro (show (608 : Int) ≠ 0 by decide) (And.intro (show (608 : Int) ≠ 0 by decide) (And.intro (Int.le_refl _) (Good.mV ((v4.2 c6).2 c7) (fun h8 v9 => v9)))))))))))))))
set_option maxRecDepth 20000 in
theorem v10_read_104 {g : Gl} {d : Nat} {Q : Hp → Prop} {h : Hp} (v0 : ∀ h1 : Hp, h1 = hup h 608 7 0 →
 Good g d i10_fine [LR 10 608] S0 h1 S0 (retI (fun r4 h2 =>
 ((r4 = 0 → ∀ h6 : Hp, h6 = hup h2 608 23 (h2 608 22) →
 Q h6) ∧
 (¬ r4 = 0 → ∀ h7 : Hp, h7 = hup h2 608 23 (-1) →
 Q h7))))) : L0 g d m10_read (retV Q) 104 [some (LR 10 608), none, none] h :=
 LW.run 40 [(40, [true, false, false]), (61, [true, false, false]), (73, [true, false, false]), (104, [true, false, false])] k10_read (And.intro (show (608 : Int) ≠ 0 by decide) (And.intro (show (608 : Int) ≠ 0 by decide) (And.intro (Int.le_refl _) (Good.mI (v0 _ rfl) (fun r4 h2 v3 => And.intro (fun c5 => And.intro (show (608 : Int) ≠ 0 by decide) (And.intro (show (608 : Int) ≠ 0 by decide) (And.intro rfl ((v3.1 c5) _ rfl)))) (fun c5 => And.intro (show (608 : Int) ≠ 0 by decide) (And.intro rfl ((v3.2 c5) _ rfl))))))))
theorem g10_read {g : Gl} {d : Nat} {Q : LV → Hp → Prop} {x1 x2 : Int} {h : Hp} (X : inI x1 → inI x2 → L0 g d m10_read Q 0 [some (LR 10 608), some (LI x1), some (LI x2)] h) : Good g (d + 1) i10_read [LR 10 608, LI x1, LI x2] S0 h S0 Q := Good.body (M := m10_read) k10_read (Int.le_refl _) (Nat.le_of_ble_eq_true rfl) (fun hok => X (hok _ (List.mem_cons_of_mem _ List.mem_cons_self)) (hok _ (List.mem_cons_of_mem _ (List.mem_cons_of_mem _ List.mem_cons_self))))
set_option maxRecDepth 20000 in
theorem v10_place {g : Gl} {d : Nat} {Q : Int → Hp → Prop} {h : Hp} (v0 : Q (h 608 23) h) : L0 g d m10_place (retI Q) 0 [some (LR 10 608)] h :=
 LW.run 40 [] k10_place (And.intro (show (608 : Int) ≠ 0 by decide) (And.intro rfl v0))
theorem g10_place {g : Gl} {d : Nat} {Q : LV → Hp → Prop} {h : Hp} (X : L0 g d m10_place Q 0 [some (LR 10 608)] h) : Good g (d + 1) i10_place [LR 10 608] S0 h S0 Q := Good.body (M := m10_place) k10_place (Int.le_refl _) (Nat.le_of_ble_eq_true rfl) (fun hok => X )
set_option maxRecDepth 20000 in
theorem v10_pattern {g : Gl} {d : Nat} {Q : Int → Hp → Prop} {x1 : Int} {h : Hp} (v0 : Good g d i10_in [LL x1, LL 0, LL 1000] S0 h S0 (retI (fun r3 h1 =>
 ((¬ r3 = 0 → ((¬ (h1 608 41) = 40 → Good g d i10_read [LR 10 608, LI 1, LI 24] S0 h1 S0 (retV (fun h6 =>
 Good g d i10_fine [LR 10 608] S0 h6 S0 (retI (fun r10 h8 =>
 ((¬ r10 = 0 → L0 g d m10_pattern (retI Q) 53 [some (LR 10 608), some (LI x1), some (LI 0), none, none] h8) ∧
 (r10 = 0 → Q (w32 ((-10) - (h8 608 21))) h8))))))) ∧
 ((h1 608 41) = 40 → Q (-1004) h1))) ∧
 (r3 = 0 → Q (-1002) h1))))) : L0 g d m10_pattern (retI Q) 0 [some (LR 10 608), some (LI x1), none, none, none] h :=
 LW.run 40 [(53, [true, true, true, false, false]), (94, [true, false, true, true, false])] k10_pattern (And.intro (Int.le_refl _) (Good.mI v0 (fun r3 h1 v2 => And.intro (fun c4 => And.intro (show (608 : Int) ≠ 0 by decide) (And.intro (fun c5 => And.intro (show (608 : Int) ≠ 0 by decide) (And.intro (Int.le_refl _) (Good.mV ((v2.1 c4).1 c5) (fun h6 v7 => And.intro (show (608 : Int) ≠ 0 by decide) (And.intro (Int.le_refl _) (Good.mI v7 (fun r10 h8 v9 => And.intro (fun c11 => (v9.1 c11)) (fun c11 => And.intro (show (608 : Int) ≠ 0 by decide) (And.intro rfl (v9.2 c11)))))))))) (fun c5 => And.intro rfl ((v2.1 c4).2 c5)))) (fun c4 => And.intro rfl (v2.2 c4)))))
set_option maxRecDepth 20000 in
theorem v10_pattern_53 {g : Gl} {d : Nat} {Q : Int → Hp → Prop} {x1 y2 : Int} {h : Hp} (v0 : 0 ≤ y2 ∧ y2 < 40 ∧ (((h 625 y2) = 0 ∨ (h 625 y2) = 1) → (((h 625 y2) = 0 → ∀ h3 : Hp, h3 = hup h 625 y2 1 →
 ∀ h4 : Hp, h4 = hup h3 626 y2 x1 →
 ∀ h5 : Hp, h5 = hup h4 627 y2 (h4 608 17) →
 L0 g d m10_pattern (retI Q) 94 [some (LR 10 608), none, some (LI y2), some (LI 0), none] h5) ∧
 (¬ (h 625 y2) = 0 → L0 g d m10_pattern (retI Q) 53 [some (LR 10 608), some (LI x1), some (LI (w32 (y2 + 1))), none, none] h)))) : L0 g d m10_pattern (retI Q) 53 [some (LR 10 608), some (LI x1), some (LI y2), none, none] h :=
 LW.run 40 [(53, [true, true, true, false, false]), (94, [true, false, true, true, false])] k10_pattern (And.intro (show (608 : Int) ≠ 0 by decide) (And.intro (show (625 : Int) ≠ 0 by decide) (And.intro v0.1 (And.intro v0.2.1 (fun c1 => And.intro (fun c2 => And.intro (show (608 : Int) ≠ 0 by decide) (And.intro (show (625 : Int) ≠ 0 by decide) (And.intro v0.1 (And.intro v0.2.1 (And.intro (Or.inr rfl) (And.intro (show (608 : Int) ≠ 0 by decide) (And.intro (show 4 ≤ (626 : Int) by decide) (And.intro v0.1 (And.intro v0.2.1 (And.intro (show (608 : Int) ≠ 0 by decide) (And.intro (show (608 : Int) ≠ 0 by decide) (And.intro (show 4 ≤ (627 : Int) by decide) (And.intro v0.1 (And.intro v0.2.1 ((((((v0.2.2 c1).1 c2) _ rfl) _ rfl) _ rfl)))))))))))))))) (fun c2 => ((v0.2.2 c1).2 c2)))))))
set_option maxRecDepth 20000 in
theorem v10_pattern_94 {g : Gl} {d : Nat} {Q : Int → Hp → Prop} {y2 y3 : Int} {h : Hp} (v0 : (((h 608 17) ≤ y3 → ∀ h2 : Hp, h2 = hup h 608 41 (w32 ((h 608 41) + 1)) →
 ∀ h3 : Hp, h3 = hup h2 608 47 0 →
 Q y2 h3) ∧
 (¬ (h 608 17) ≤ y3 → 0 ≤ y3 ∧ y3 < 121 ∧ 0 ≤ ((w32 ((w32 (24 * y2)) + y3))) ∧ ((w32 ((w32 (24 * y2)) + y3))) < 960 ∧ ∀ h4 : Hp, h4 = hup h 628 (w32 ((w32 (24 * y2)) + y3)) (h 614 y3) →
 ∀ h5 : Hp, h5 = hup h4 629 (w32 ((w32 (24 * y2)) + y3)) (h4 615 y3) →
 ∀ h6 : Hp, h6 = hup h5 630 (w32 ((w32 (24 * y2)) + y3)) (h5 616 y3) →
 ∀ h7 : Hp, h7 = hup h6 631 (w32 ((w32 (24 * y2)) + y3)) (h6 617 y3) →
 ∀ h8 : Hp, h8 = hup h7 632 (w32 ((w32 (24 * y2)) + y3)) (h7 618 y3) →
 (((h8 619 y3) = 0 ∨ (h8 619 y3) = 1) → ∀ h10 : Hp, h10 = hup h8 633 (w32 ((w32 (24 * y2)) + y3)) (h8 619 y3) →
 ∀ h11 : Hp, h11 = hup h10 634 (w32 ((w32 (24 * y2)) + y3)) (h10 620 y3) →
 ∀ h12 : Hp, h12 = hup h11 635 (w32 ((w32 (24 * y2)) + y3)) (h11 621 y3) →
 ∀ h13 : Hp, h13 = hup h12 636 (w32 ((w32 (24 * y2)) + y3)) (h12 622 y3) →
 L0 g d m10_pattern (retI Q) 94 [some (LR 10 608), none, some (LI y2), some (LI (w32 (y3 + 1))), none] h13)))) : L0 g d m10_pattern (retI Q) 94 [some (LR 10 608), none, some (LI y2), some (LI y3), none] h :=
 LW.run 40 [(53, [true, true, true, false, false]), (94, [true, false, true, true, false])] k10_pattern (And.intro (show (608 : Int) ≠ 0 by decide) (And.intro (fun c1 => And.intro (show (608 : Int) ≠ 0 by decide) (And.intro (show (608 : Int) ≠ 0 by decide) (And.intro (show (608 : Int) ≠ 0 by decide) (And.intro (Or.inl rfl) (And.intro rfl (((v0.1 c1) _ rfl) _ rfl)))))) (fun c1 => And.intro (show (608 : Int) ≠ 0 by decide) (And.intro (show (608 : Int) ≠ 0 by decide) (And.intro (show (614 : Int) ≠ 0 by decide) (And.intro (v0.2 c1).1 (And.intro (v0.2 c1).2.1 (And.intro (show 4 ≤ (628 : Int) by decide) (And.intro (v0.2 c1).2.2.1 (And.intro (v0.2 c1).2.2.2.1 (And.intro (show (608 : Int) ≠ 0 by decide) (And.intro (show (608 : Int) ≠ 0 by decide) (And.intro (show (615 : Int) ≠ 0 by decide) (And.intro (v0.2 c1).1 (And.intro (v0.2 c1).2.1 (And.intro (show 4 ≤ (629 : Int) by decide) (And.intro (v0.2 c1).2.2.1 (And.intro (v0.2 c1).2.2.2.1 (And.intro (show (608 : Int) ≠ 0 by decide) (And.intro (show (608 : Int) ≠ 0 by decide) (And.intro (show (616 : Int) ≠ 0 by decide) (And.intro (v0.2 c1).1 (And.intro (v0.2 c1).2.1 (And.intro (show (630 : Int) ≠ 0 by decide) (And.intro (v0.2 c1).2.2.1 (And.intro (v0.2 c1).2.2.2.1 (And.intro (show (608 : Int) ≠ 0 by decide) (And.intro (show (608 : Int) ≠ 0 by decide) (And.intro (show (617 : Int) ≠ 0 by decide) (And.intro (v0.2 c1).1 (And.intro (v0.2 c1).2.1 (And.intro (show 4 ≤ (631 : Int) by decide) (And.intro (v0.2 c1).2.2.1 (And.intro (v0.2 c1).2.2.2.1 (And.intro (show (608 : Int) ≠ 0 by decide) (And.intro (show (608 : Int) ≠ 0 by decide) (And.intro (show (618 : Int) ≠ 0 by decide) (And.intro (v0.2 c1).1 (And.intro (v0.2 c1).2.1 (And.intro (show 4 ≤ (632 : Int) by decide) (And.intro (v0.2 c1).2.2.1 (And.intro (v0.2 c1).2.2.2.1 (And.intro (show (608 : Int) ≠ 0 by decide) (And.intro (show (608 : Int) ≠ 0 by decide) (And.intro (show (619 : Int) ≠ 0 by decide) (And.intro (v0.2 c1).1 (And.intro (v0.2 c1).2.1 (fun c9 => And.intro (show (633 : Int) ≠ 0 by decide) (And.intro (v0.2 c1).2.2.1 (And.intro (v0.2 c1).2.2.2.1 (And.intro c9 (And.intro (show (608 : Int) ≠ 0 by decide) (And.intro (show (608 : Int) ≠ 0 by decide) (And.intro (show (620 : Int) ≠ 0 by decide) (And.intro (v0.2 c1).1 (And.intro (v0.2 c1).2.1 (And.intro (show (634 : Int) ≠ 0 by decide) (And.intro (v0.2 c1).2.2.1 (And.intro (v0.2 c1).2.2.2.1 (And.intro (show (608 : Int) ≠ 0 by decide) (And.intro (show (608 : Int) ≠ 0 by decide) (And.intro (show (621 : Int) ≠ 0 by decide) (And.intro (v0.2 c1).1 (And.intro (v0.2 c1).2.1 (And.intro (show (635 : Int) ≠ 0 by decide) (And.intro (v0.2 c1).2.2.1 (And.intro (v0.2 c1).2.2.2.1 (And.intro (show (608 : Int) ≠ 0 by decide) (And.intro (show (608 : Int) ≠ 0 by decide) (And.intro (show (622 : Int) ≠ 0 by decide) (And.intro (v0.2 c1).1 (And.intro (v0.2 c1).2.1 (And.intro (show 4 ≤ (636 : Int) by decide) (And.intro (v0.2 c1).2.2.1 (And.intro (v0.2 c1).2.2.2.1 ((((((((((((v0.2 c1).2.2.2.2 _ rfl) _ rfl) _ rfl) _ rfl) _ rfl) c9) _ rfl) _ rfl) _ rfl) _ rfl)))))))))))))))))))))))))))))))))))))))))))))))))))))))))))))))))))))))))))))
theorem g10_pattern {g : Gl} {d : Nat} {Q : LV → Hp → Prop} {x1 : Int} {h : Hp} (X : inI x1 → L0 g d m10_pattern Q 0 [some (LR 10 608), some (LI x1), none, none, none] h) : Good g (d + 1) i10_pattern [LR 10 608, LI x1] S0 h S0 Q := Good.body (M := m10_pattern) k10_pattern (Int.le_refl _) (Nat.le_of_ble_eq_true rfl) (fun hok => X (hok _ (List.mem_cons_of_mem _ List.mem_cons_self)))
set_option maxRecDepth 20000 in
theorem v10_noPattern {g : Gl} {d : Nat} {Q : Int → Hp → Prop} {x1 : Int} {h : Hp} (v0 : Good g d i10_in [LL x1, LL 0, LL 39] S0 h S0 (retI (fun r3 h1 =>
 ((r3 = 0 → Q 1 h1) ∧
 (¬ r3 = 0 → 0 ≤ x1 ∧ x1 < 40 ∧ (((h1 625 x1) = 0 ∨ (h1 625 x1) = 1) → ((¬ (h1 625 x1) = 0 → Q 0 h1) ∧
 ((h1 625 x1) = 0 → Q 1 h1)))))))) : L0 g d m10_noPattern (retI Q) 0 [some (LR 10 608), some (LI x1)] h :=
 LW.run 40 [] k10_noPattern (And.intro (Int.le_refl _) (Good.mI v0 (fun r3 h1 v2 => And.intro (fun c4 => And.intro (Or.inr rfl) (And.intro rfl (v2.1 c4))) (fun c4 => And.intro (show (608 : Int) ≠ 0 by decide) (And.intro (show (625 : Int) ≠ 0 by decide) (And.intro (v2.2 c4).1 (And.intro (v2.2 c4).2.1 (fun c5 => And.intro (fun c6 => And.intro (Or.inl rfl) (And.intro rfl (((v2.2 c4).2.2 c5).1 c6))) (fun c6 => And.intro (Or.inr rfl) (And.intro rfl (((v2.2 c4).2.2 c5).2 c6)))))))))))
theorem g10_noPattern {g : Gl} {d : Nat} {Q : LV → Hp → Prop} {x1 : Int} {h : Hp} (X : inI x1 → L0 g d m10_noPattern Q 0 [some (LR 10 608), some (LI x1)] h) : Good g (d + 1) i10_noPattern [LR 10 608, LI x1] S0 h S0 Q := Good.body (M := m10_noPattern) k10_noPattern (Int.le_refl _) (Nat.le_of_ble_eq_true rfl) (fun hok => X (hok _ (List.mem_cons_of_mem _ List.mem_cons_self)))
set_option maxRecDepth 20000 in
theorem v10_drop {g : Gl} {d : Nat} {Q : Int → Hp → Prop} {x1 : Int} {h : Hp} (v0 : Good g d i10_noPattern [LR 10 608, LI x1] S0 h S0 (retI (fun r3 h1 =>
 ((r3 = 0 → 0 ≤ x1 ∧ x1 < 40 ∧ ∀ h5 : Hp, h5 = hup h1 625 x1 0 →
 ∀ h6 : Hp, h6 = hup h5 608 41 (w32 ((h5 608 41) - 1)) →
 ∀ h7 : Hp, h7 = hup h6 608 47 0 →
 Q (h7 608 41) h7) ∧
 (¬ r3 = 0 → Q (-1001) h1))))) : L0 g d m10_drop (retI Q) 0 [some (LR 10 608), some (LI x1)] h :=
 LW.run 40 [] k10_drop (And.intro (show (608 : Int) ≠ 0 by decide) (And.intro (Int.le_refl _) (Good.mI v0 (fun r3 h1 v2 => And.intro (fun c4 => And.intro (show (608 : Int) ≠ 0 by decide) (And.intro (show (625 : Int) ≠ 0 by decide) (And.intro (v2.1 c4).1 (And.intro (v2.1 c4).2.1 (And.intro (Or.inl rfl) (And.intro (show (608 : Int) ≠ 0 by decide) (And.intro (show (608 : Int) ≠ 0 by decide) (And.intro (show (608 : Int) ≠ 0 by decide) (And.intro (Or.inl rfl) (And.intro (show (608 : Int) ≠ 0 by decide) (And.intro rfl ((((v2.1 c4).2.2 _ rfl) _ rfl) _ rfl)))))))))))) (fun c4 => And.intro rfl (v2.2 c4))))))
theorem g10_drop {g : Gl} {d : Nat} {Q : LV → Hp → Prop} {x1 : Int} {h : Hp} (X : inI x1 → L0 g d m10_drop Q 0 [some (LR 10 608), some (LI x1)] h) : Good g (d + 1) i10_drop [LR 10 608, LI x1] S0 h S0 Q := Good.body (M := m10_drop) k10_drop (Int.le_refl _) (Nat.le_of_ble_eq_true rfl) (fun hok => X (hok _ (List.mem_cons_of_mem _ List.mem_cons_self)))
set_option maxRecDepth 20000 in
theorem v10_findUps {g : Gl} {d : Nat} {Q : Hp → Prop} {h : Hp} (v0 : L0 g d m10_findUps (retV Q) 2 [some (LR 10 608), some (LI 0), none] h) : L0 g d m10_findUps (retV Q) 0 [some (LR 10 608), none, none] h :=
 LW.run 40 [(2, [true, true, false]), (19, [true, true, true])] k10_findUps (v0)
set_option maxRecDepth 20000 in
theorem v10_findUps_2 {g : Gl} {d : Nat} {Q : Hp → Prop} {y1 : Int} {h : Hp} (v0 : (((h 608 42) ≤ y1 → Q h) ∧
 (¬ (h 608 42) ≤ y1 → 0 ≤ y1 ∧ y1 < 120 ∧ ∀ h2 : Hp, h2 = hup h 640 y1 (-1) →
 L0 g d m10_findUps (retV Q) 19 [some (LR 10 608), some (LI y1), some (LI 0)] h2))) : L0 g d m10_findUps (retV Q) 2 [some (LR 10 608), some (LI y1), none] h :=
 LW.run 40 [(2, [true, true, false]), (19, [true, true, true])] k10_findUps (And.intro (show (608 : Int) ≠ 0 by decide) (And.intro (fun c1 => And.intro rfl (v0.1 c1)) (fun c1 => And.intro (show (608 : Int) ≠ 0 by decide) (And.intro (show 4 ≤ (640 : Int) by decide) (And.intro (v0.2 c1).1 (And.intro (v0.2 c1).2.1 (((v0.2 c1).2.2 _ rfl))))))))
set_option maxRecDepth 20000 in
theorem v10_findUps_19 {g : Gl} {d : Nat} {Q : Hp → Prop} {y1 y2 : Int} {h : Hp} (v0 : ((y1 ≤ y2 → L0 g d m10_findUps (retV Q) 2 [some (LR 10 608), some (LI (w32 (y1 + 1))), none] h) ∧
 (¬ y1 ≤ y2 → 0 ≤ y2 ∧ y2 < 240 ∧ (((h 639 y2) ≤ y1 → 0 ≤ y1 ∧ y1 < 120 ∧ ∀ h3 : Hp, h3 = hup h 640 y1 (h 640 y1) →
 L0 g d m10_findUps (retV Q) 19 [some (LR 10 608), some (LI y1), some (LI (w32 (y2 + 1)))] h3) ∧
 (¬ (h 639 y2) ≤ y1 → 0 ≤ y1 ∧ y1 < 120 ∧ ∀ h4 : Hp, h4 = hup h 640 y1 y2 →
 L0 g d m10_findUps (retV Q) 19 [some (LR 10 608), some (LI y1), some (LI (w32 (y2 + 1)))] h4))))) : L0 g d m10_findUps (retV Q) 19 [some (LR 10 608), some (LI y1), some (LI y2)] h :=
 LW.run 40 [(2, [true, true, false]), (19, [true, true, true])] k10_findUps (And.intro (fun c1 => (v0.1 c1)) (fun c1 => And.intro (show (608 : Int) ≠ 0 by decide) (And.intro (show (608 : Int) ≠ 0 by decide) (And.intro (show (639 : Int) ≠ 0 by decide) (And.intro (v0.2 c1).1 (And.intro (v0.2 c1).2.1 (And.intro (fun c2 => And.intro (show (608 : Int) ≠ 0 by decide) (And.intro (show (640 : Int) ≠ 0 by decide) (And.intro ((v0.2 c1).2.2.1 c2).1 (And.intro ((v0.2 c1).2.2.1 c2).2.1 (And.intro (show 4 ≤ (640 : Int) by decide) (And.intro ((v0.2 c1).2.2.1 c2).1 (And.intro ((v0.2 c1).2.2.1 c2).2.1 ((((v0.2 c1).2.2.1 c2).2.2 _ rfl))))))))) (fun c2 => And.intro (show 4 ≤ (640 : Int) by decide) (And.intro ((v0.2 c1).2.2.2 c2).1 (And.intro ((v0.2 c1).2.2.2 c2).2.1 ((((v0.2 c1).2.2.2 c2).2.2 _ rfl))))))))))))
theorem g10_findUps {g : Gl} {d : Nat} {Q : LV → Hp → Prop} {h : Hp} (X : L0 g d m10_findUps Q 0 [some (LR 10 608), none, none] h) : Good g (d + 1) i10_findUps [LR 10 608] S0 h S0 Q := Good.body (M := m10_findUps) k10_findUps (Int.le_refl _) (Nat.le_of_ble_eq_true rfl) (fun hok => X )
set_option maxRecDepth 20000 in
theorem v10_tree {g : Gl} {d : Nat} {Q : Int → Hp → Prop} {h : Hp} (v0 : Good g d i10_read [LR 10 608, LI 0, LI 120] S0 h S0 (retV (fun h1 =>
 Good g d i10_fine [LR 10 608] S0 h1 S0 (retI (fun r5 h3 =>
 ((¬ r5 = 0 → ∀ h7 : Hp, h7 = hup h3 608 42 (h3 608 17) →
 L0 g d m10_tree (retI Q) 32 [some (LR 10 608), some (LI 0)] h7) ∧
 (r5 = 0 → Q (w32 ((-10) - (h3 608 21))) h3))))))) : L0 g d m10_tree (retI Q) 0 [some (LR 10 608), none] h :=
 LW.run 40 [(32, [true, true])] k10_tree (And.intro (show (608 : Int) ≠ 0 by decide) (And.intro (Int.le_refl _) (Good.mV v0 (fun h1 v2 => And.intro (show (608 : Int) ≠ 0 by decide) (And.intro (Int.le_refl _) (Good.mI v2 (fun r5 h3 v4 => And.intro (fun c6 => And.intro (show (608 : Int) ≠ 0 by decide) (And.intro (show (608 : Int) ≠ 0 by decide) (((v4.1 c6) _ rfl)))) (fun c6 => And.intro (show (608 : Int) ≠ 0 by decide) (And.intro rfl (v4.2 c6))))))))))
set_option maxRecDepth 20000 in
theorem v10_tree_32 {g : Gl} {d : Nat} {Q : Int → Hp → Prop} {y1 : Int} {h : Hp} (v0 : (((h 608 17) ≤ y1 → Good g d i10_findUps [LR 10 608] S0 h S0 (retV (fun h2 =>
 ∀ h4 : Hp, h4 = hup h2 608 47 0 →
 Q (h4 608 42) h4))) ∧
 (¬ (h 608 17) ≤ y1 → 0 ≤ y1 ∧ y1 < 121 ∧ y1 < 240 ∧ ∀ h5 : Hp, h5 = hup h 637 y1 (h 615 y1) →
 ∀ h6 : Hp, h6 = hup h5 638 y1 (h5 616 y1) →
 ∀ h7 : Hp, h7 = hup h6 639 y1 (h6 622 y1) →
 L0 g d m10_tree (retI Q) 32 [some (LR 10 608), some (LI (w32 (y1 + 1)))] h7))) : L0 g d m10_tree (retI Q) 32 [some (LR 10 608), some (LI y1)] h :=
 LW.run 40 [(32, [true, true])] k10_tree (And.intro (show (608 : Int) ≠ 0 by decide) (And.intro (fun c1 => And.intro (show (608 : Int) ≠ 0 by decide) (And.intro (Int.le_refl _) (Good.mV (v0.1 c1) (fun h2 v3 => And.intro (show (608 : Int) ≠ 0 by decide) (And.intro (Or.inl rfl) (And.intro (show (608 : Int) ≠ 0 by decide) (And.intro rfl (v3 _ rfl)))))))) (fun c1 => And.intro (show (608 : Int) ≠ 0 by decide) (And.intro (show (608 : Int) ≠ 0 by decide) (And.intro (show (615 : Int) ≠ 0 by decide) (And.intro (v0.2 c1).1 (And.intro (v0.2 c1).2.1 (And.intro (show 4 ≤ (637 : Int) by decide) (And.intro (v0.2 c1).1 (And.intro (v0.2 c1).2.2.1 (And.intro (show (608 : Int) ≠ 0 by decide) (And.intro (show (608 : Int) ≠ 0 by decide) (And.intro (show (616 : Int) ≠ 0 by decide) (And.intro (v0.2 c1).1 (And.intro (v0.2 c1).2.1 (And.intro (show (638 : Int) ≠ 0 by decide) (And.intro (v0.2 c1).1 (And.intro (v0.2 c1).2.2.1 (And.intro (show (608 : Int) ≠ 0 by decide) (And.intro (show (608 : Int) ≠ 0 by decide) (And.intro (show (622 : Int) ≠ 0 by decide) (And.intro (v0.2 c1).1 (And.intro (v0.2 c1).2.1 (And.intro (show 4 ≤ (639 : Int) by decide) (And.intro (v0.2 c1).1 (And.intro (v0.2 c1).2.2.1 (((((v0.2 c1).2.2.2 _ rfl) _ rfl) _ rfl))))))))))))))))))))))))))))
theorem g10_tree {g : Gl} {d : Nat} {Q : LV → Hp → Prop} {h : Hp} (X : L0 g d m10_tree Q 0 [some (LR 10 608), none] h) : Good g (d + 1) i10_tree [LR 10 608] S0 h S0 Q := Good.body (M := m10_tree) k10_tree (Int.le_refl _) (Nat.le_of_ble_eq_true rfl) (fun hok => X )
set_option maxRecDepth 20000 in
theorem v10_noNode {g : Gl} {d : Nat} {Q : Int → Hp → Prop} {x1 : Int} {h : Hp} (v0 : Good g d i10_in [LL x1, LL 0, LL (w32 ((h 608 42) - 1))] S0 h S0 (retI (fun r3 h1 =>
 ((¬ r3 = 0 → Q 0 h1) ∧
 (r3 = 0 → Q 1 h1))))) : L0 g d m10_noNode (retI Q) 0 [some (LR 10 608), some (LI x1)] h :=
 LW.run 40 [] k10_noNode (And.intro (show (608 : Int) ≠ 0 by decide) (And.intro (Int.le_refl _) (Good.mI v0 (fun r3 h1 v2 => And.intro (fun c4 => And.intro (Or.inl rfl) (And.intro rfl (v2.1 c4))) (fun c4 => And.intro (Or.inr rfl) (And.intro rfl (v2.2 c4)))))))
theorem g10_noNode {g : Gl} {d : Nat} {Q : LV → Hp → Prop} {x1 : Int} {h : Hp} (X : inI x1 → L0 g d m10_noNode Q 0 [some (LR 10 608), some (LI x1)] h) : Good g (d + 1) i10_noNode [LR 10 608, LI x1] S0 h S0 Q := Good.body (M := m10_noNode) k10_noNode (Int.le_refl _) (Nat.le_of_ble_eq_true rfl) (fun hok => X (hok _ (List.mem_cons_of_mem _ List.mem_cons_self)))
set_option maxRecDepth 20000 in
theorem v10_change {g : Gl} {d : Nat} {Q : Int → Hp → Prop} {x1 : Int} {h : Hp} (v0 : Good g d i10_noNode [LR 10 608, LI x1] S0 h S0 (retI (fun r3 h1 =>
 ((r3 = 0 → 0 ≤ x1 ∧ x1 < 240 ∧ Good g d i10_read [LR 10 608, LI 0, LI (w32 ((w32 (120 - (h1 608 42))) + (w32 ((h1 639 x1) - x1))))] S0 h1 S0 (retV (fun h5 =>
 Good g d i10_fine [LR 10 608] S0 h5 S0 (retI (fun r9 h7 =>
 ((¬ r9 = 0 → L0 g d m10_change (retI Q) 65 [some (LR 10 608), some (LI x1), some (LI (w32 ((h1 639 x1) - x1))), some (LI (w32 ((h7 608 17) - (w32 ((h1 639 x1) - x1))))), some (LI (w32 ((h7 608 42) - 1)))] h7) ∧
 (r9 = 0 → Q (w32 ((-10) - (h7 608 21))) h7))))))) ∧
 (¬ r3 = 0 → Q (-1001) h1))))) : L0 g d m10_change (retI Q) 0 [some (LR 10 608), some (LI x1), none, none, none] h :=
 LW.run 40 [(65, [true, true, true, true, true]), (135, [true, true, true, true, true]), (178, [true, true, false, true, true]), (253, [true, true, false, true, true])] k10_change (And.intro (show (608 : Int) ≠ 0 by decide) (And.intro (Int.le_refl _) (Good.mI v0 (fun r3 h1 v2 => And.intro (fun c4 => And.intro (show (608 : Int) ≠ 0 by decide) (And.intro (show (639 : Int) ≠ 0 by decide) (And.intro (v2.1 c4).1 (And.intro (v2.1 c4).2.1 (And.intro (show (608 : Int) ≠ 0 by decide) (And.intro (show (608 : Int) ≠ 0 by decide) (And.intro (Int.le_refl _) (Good.mV (v2.1 c4).2.2 (fun h5 v6 => And.intro (show (608 : Int) ≠ 0 by decide) (And.intro (Int.le_refl _) (Good.mI v6 (fun r9 h7 v8 => And.intro (fun c10 => And.intro (show (608 : Int) ≠ 0 by decide) (And.intro (show (608 : Int) ≠ 0 by decide) ((v8.1 c10)))) (fun c10 => And.intro (show (608 : Int) ≠ 0 by decide) (And.intro rfl (v8.2 c10))))))))))))))) (fun c4 => And.intro rfl (v2.2 c4))))))
set_option maxRecDepth 20000 in
theorem v10_change_65 {g : Gl} {d : Nat} {Q : Int → Hp → Prop} {x1 y2 y3 y4 : Int} {h : Hp} (v0 : ((y4 < (w32 (x1 + y2)) → L0 g d m10_change (retI Q) 135 [some (LR 10 608), some (LI x1), some (LI y2), some (LI y3), some (LI 0)] h) ∧
 (¬ y4 < (w32 (x1 + y2)) → 0 ≤ y4 ∧ y4 < 240 ∧ 0 ≤ ((w32 (120 + y4))) ∧ ((w32 (120 + y4))) < 240 ∧ ∀ h2 : Hp, h2 = hup h 637 (w32 (120 + y4)) (h 637 y4) →
 ∀ h3 : Hp, h3 = hup h2 638 (w32 (120 + y4)) (h2 638 y4) →
 ∀ h4 : Hp, h4 = hup h3 639 (w32 (120 + y4)) (w32 ((h3 639 y4) + y3)) →
 L0 g d m10_change (retI Q) 65 [some (LR 10 608), some (LI x1), some (LI y2), some (LI y3), some (LI (w32 (y4 + (-1))))] h4))) : L0 g d m10_change (retI Q) 65 [some (LR 10 608), some (LI x1), some (LI y2), some (LI y3), some (LI y4)] h :=
 LW.run 40 [(65, [true, true, true, true, true]), (135, [true, true, true, true, true]), (178, [true, true, false, true, true]), (253, [true, true, false, true, true])] k10_change (And.intro (fun c1 => (v0.1 c1)) (fun c1 => And.intro (show (608 : Int) ≠ 0 by decide) (And.intro (show (608 : Int) ≠ 0 by decide) (And.intro (show (637 : Int) ≠ 0 by decide) (And.intro (v0.2 c1).1 (And.intro (v0.2 c1).2.1 (And.intro (show 4 ≤ (637 : Int) by decide) (And.intro (v0.2 c1).2.2.1 (And.intro (v0.2 c1).2.2.2.1 (And.intro (show (608 : Int) ≠ 0 by decide) (And.intro (show (608 : Int) ≠ 0 by decide) (And.intro (show (638 : Int) ≠ 0 by decide) (And.intro (v0.2 c1).1 (And.intro (v0.2 c1).2.1 (And.intro (show (638 : Int) ≠ 0 by decide) (And.intro (v0.2 c1).2.2.1 (And.intro (v0.2 c1).2.2.2.1 (And.intro (show (608 : Int) ≠ 0 by decide) (And.intro (show (608 : Int) ≠ 0 by decide) (And.intro (show (639 : Int) ≠ 0 by decide) (And.intro (v0.2 c1).1 (And.intro (v0.2 c1).2.1 (And.intro (show 4 ≤ (639 : Int) by decide) (And.intro (v0.2 c1).2.2.1 (And.intro (v0.2 c1).2.2.2.1 (((((v0.2 c1).2.2.2.2 _ rfl) _ rfl) _ rfl)))))))))))))))))))))))))))
set_option maxRecDepth 20000 in
theorem v10_change_135 {g : Gl} {d : Nat} {Q : Int → Hp → Prop} {x1 y2 y3 y4 : Int} {h : Hp} (v0 : ((x1 ≤ y4 → L0 g d m10_change (retI Q) 178 [some (LR 10 608), some (LI x1), none, some (LI y3), some (LI (w32 (x1 + y2)))] h) ∧
 (¬ x1 ≤ y4 → 0 ≤ y4 ∧ y4 < 240 ∧ (((h 639 y4) ≤ x1 → ∀ h3 : Hp, h3 = hup h 639 y4 (w32 ((h 639 y4) + 0)) →
 L0 g d m10_change (retI Q) 135 [some (LR 10 608), some (LI x1), some (LI y2), some (LI y3), some (LI (w32 (y4 + 1)))] h3) ∧
 (¬ (h 639 y4) ≤ x1 → ∀ h4 : Hp, h4 = hup h 639 y4 (w32 ((h 639 y4) + y3)) →
 L0 g d m10_change (retI Q) 135 [some (LR 10 608), some (LI x1), some (LI y2), some (LI y3), some (LI (w32 (y4 + 1)))] h4))))) : L0 g d m10_change (retI Q) 135 [some (LR 10 608), some (LI x1), some (LI y2), some (LI y3), some (LI y4)] h :=
 LW.run 40 [(65, [true, true, true, true, true]), (135, [true, true, true, true, true]), (178, [true, true, false, true, true]), (253, [true, true, false, true, true])] k10_change (And.intro (fun c1 => (v0.1 c1)) (fun c1 => And.intro (show (608 : Int) ≠ 0 by decide) (And.intro (show (639 : Int) ≠ 0 by decide) (And.intro (v0.2 c1).1 (And.intro (v0.2 c1).2.1 (And.intro (show (608 : Int) ≠ 0 by decide) (And.intro (show (639 : Int) ≠ 0 by decide) (And.intro (v0.2 c1).1 (And.intro (v0.2 c1).2.1 (And.intro (fun c2 => And.intro (show 4 ≤ (639 : Int) by decide) (And.intro (v0.2 c1).1 (And.intro (v0.2 c1).2.1 ((((v0.2 c1).2.2.1 c2) _ rfl))))) (fun c2 => And.intro (show 4 ≤ (639 : Int) by decide) (And.intro (v0.2 c1).1 (And.intro (v0.2 c1).2.1 ((((v0.2 c1).2.2.2 c2) _ rfl)))))))))))))))
set_option maxRecDepth 20000 in
theorem v10_change_178 {g : Gl} {d : Nat} {Q : Int → Hp → Prop} {x1 y3 y4 : Int} {h : Hp} (v0 : (((h 608 42) ≤ y4 → L0 g d m10_change (retI Q) 253 [some (LR 10 608), some (LI x1), none, some (LI y3), some (LI 0)] h) ∧
 (¬ (h 608 42) ≤ y4 → 0 ≤ ((w32 (120 + y4))) ∧ ((w32 (120 + y4))) < 240 ∧ 0 ≤ ((w32 (y4 + y3))) ∧ ((w32 (y4 + y3))) < 240 ∧ ∀ h2 : Hp, h2 = hup h 637 (w32 (y4 + y3)) (h 637 (w32 (120 + y4))) →
 ∀ h3 : Hp, h3 = hup h2 638 (w32 (y4 + y3)) (h2 638 (w32 (120 + y4))) →
 ∀ h4 : Hp, h4 = hup h3 639 (w32 (y4 + y3)) (h3 639 (w32 (120 + y4))) →
 L0 g d m10_change (retI Q) 178 [some (LR 10 608), some (LI x1), none, some (LI y3), some (LI (w32 (y4 + 1)))] h4))) : L0 g d m10_change (retI Q) 178 [some (LR 10 608), some (LI x1), none, some (LI y3), some (LI y4)] h :=
 LW.run 40 [(65, [true, true, true, true, true]), (135, [true, true, true, true, true]), (178, [true, true, false, true, true]), (253, [true, true, false, true, true])] k10_change (And.intro (show (608 : Int) ≠ 0 by decide) (And.intro (fun c1 => (v0.1 c1)) (fun c1 => And.intro (show (608 : Int) ≠ 0 by decide) (And.intro (show (608 : Int) ≠ 0 by decide) (And.intro (show (637 : Int) ≠ 0 by decide) (And.intro (v0.2 c1).1 (And.intro (v0.2 c1).2.1 (And.intro (show 4 ≤ (637 : Int) by decide) (And.intro (v0.2 c1).2.2.1 (And.intro (v0.2 c1).2.2.2.1 (And.intro (show (608 : Int) ≠ 0 by decide) (And.intro (show (608 : Int) ≠ 0 by decide) (And.intro (show (638 : Int) ≠ 0 by decide) (And.intro (v0.2 c1).1 (And.intro (v0.2 c1).2.1 (And.intro (show (638 : Int) ≠ 0 by decide) (And.intro (v0.2 c1).2.2.1 (And.intro (v0.2 c1).2.2.2.1 (And.intro (show (608 : Int) ≠ 0 by decide) (And.intro (show (608 : Int) ≠ 0 by decide) (And.intro (show (639 : Int) ≠ 0 by decide) (And.intro (v0.2 c1).1 (And.intro (v0.2 c1).2.1 (And.intro (show 4 ≤ (639 : Int) by decide) (And.intro (v0.2 c1).2.2.1 (And.intro (v0.2 c1).2.2.2.1 (((((v0.2 c1).2.2.2.2 _ rfl) _ rfl) _ rfl))))))))))))))))))))))))))))
set_option maxRecDepth 20000 in
theorem v10_change_253 {g : Gl} {d : Nat} {Q : Int → Hp → Prop} {x1 y3 y4 : Int} {h : Hp} (v0 : (((h 608 17) ≤ y4 → ∀ h2 : Hp, h2 = hup h 608 42 (w32 ((h 608 42) + y3)) →
 Good g d i10_findUps [LR 10 608] S0 h2 S0 (retV (fun h3 =>
 ∀ h5 : Hp, h5 = hup h3 608 47 0 →
 Q (h5 608 42) h5))) ∧
 (¬ (h 608 17) ≤ y4 → 0 ≤ y4 ∧ y4 < 121 ∧ 0 ≤ ((w32 (x1 + y4))) ∧ ((w32 (x1 + y4))) < 240 ∧ ∀ h6 : Hp, h6 = hup h 637 (w32 (x1 + y4)) (h 615 y4) →
 ∀ h7 : Hp, h7 = hup h6 638 (w32 (x1 + y4)) (h6 616 y4) →
 ∀ h8 : Hp, h8 = hup h7 639 (w32 (x1 + y4)) (w32 (x1 + (h7 622 y4))) →
 L0 g d m10_change (retI Q) 253 [some (LR 10 608), some (LI x1), none, some (LI y3), some (LI (w32 (y4 + 1)))] h8))) : L0 g d m10_change (retI Q) 253 [some (LR 10 608), some (LI x1), none, some (LI y3), some (LI y4)] h :=
 LW.run 40 [(65, [true, true, true, true, true]), (135, [true, true, true, true, true]), (178, [true, true, false, true, true]), (253, [true, true, false, true, true])] k10_change (And.intro (show (608 : Int) ≠ 0 by decide) (And.intro (fun c1 => And.intro (show (608 : Int) ≠ 0 by decide) (And.intro (show (608 : Int) ≠ 0 by decide) (And.intro (show (608 : Int) ≠ 0 by decide) (And.intro (Int.le_refl _) (Good.mV ((v0.1 c1) _ rfl) (fun h3 v4 => And.intro (show (608 : Int) ≠ 0 by decide) (And.intro (Or.inl rfl) (And.intro (show (608 : Int) ≠ 0 by decide) (And.intro rfl (v4 _ rfl)))))))))) (fun c1 => And.intro (show (608 : Int) ≠ 0 by decide) (And.intro (show (608 : Int) ≠ 0 by decide) (And.intro (show (615 : Int) ≠ 0 by decide) (And.intro (v0.2 c1).1 (And.intro (v0.2 c1).2.1 (And.intro (show 4 ≤ (637 : Int) by decide) (And.intro (v0.2 c1).2.2.1 (And.intro (v0.2 c1).2.2.2.1 (And.intro (show (608 : Int) ≠ 0 by decide) (And.intro (show (608 : Int) ≠ 0 by decide) (And.intro (show (616 : Int) ≠ 0 by decide) (And.intro (v0.2 c1).1 (And.intro (v0.2 c1).2.1 (And.intro (show (638 : Int) ≠ 0 by decide) (And.intro (v0.2 c1).2.2.1 (And.intro (v0.2 c1).2.2.2.1 (And.intro (show (608 : Int) ≠ 0 by decide) (And.intro (show (608 : Int) ≠ 0 by decide) (And.intro (show (622 : Int) ≠ 0 by decide) (And.intro (v0.2 c1).1 (And.intro (v0.2 c1).2.1 (And.intro (show 4 ≤ (639 : Int) by decide) (And.intro (v0.2 c1).2.2.1 (And.intro (v0.2 c1).2.2.2.1 (((((v0.2 c1).2.2.2.2 _ rfl) _ rfl) _ rfl))))))))))))))))))))))))))))
theorem g10_change {g : Gl} {d : Nat} {Q : LV → Hp → Prop} {x1 : Int} {h : Hp} (X : inI x1 → L0 g d m10_change Q 0 [some (LR 10 608), some (LI x1), none, none, none] h) : Good g (d + 1) i10_change [LR 10 608, LI x1] S0 h S0 Q := Good.body (M := m10_change) k10_change (Int.le_refl _) (Nat.le_of_ble_eq_true rfl) (fun hok => X (hok _ (List.mem_cons_of_mem _ List.mem_cons_self)))
set_option maxRecDepth 20000 in
theorem v10_inNet {g : Gl} {d : Nat} {Q : Int → Hp → Prop} {x1 : Int} {h : Hp} (v0 : 0 ≤ x1 ∧ x1 < 40 ∧ (((h 625 x1) = 0 ∨ (h 625 x1) = 1) → (((h 625 x1) = 0 → Q 0 h) ∧
 (¬ (h 625 x1) = 0 → Good g d i10_oddOf [LR 10 608, LI x1] S0 h S0 (retI (fun r5 h3 =>
 ((¬ r5 = 0 → Q 0 h3) ∧
 (r5 = 0 → Q 1 h3)))))))) : L0 g d m10_inNet (retI Q) 0 [some (LR 10 608), some (LI x1)] h :=
 LW.run 40 [] k10_inNet (And.intro (show (608 : Int) ≠ 0 by decide) (And.intro (show (625 : Int) ≠ 0 by decide) (And.intro v0.1 (And.intro v0.2.1 (fun c1 => And.intro (fun c2 => And.intro (Or.inl rfl) (And.intro rfl ((v0.2.2 c1).1 c2))) (fun c2 => And.intro (show (608 : Int) ≠ 0 by decide) (And.intro (Int.le_refl _) (Good.mI ((v0.2.2 c1).2 c2) (fun r5 h3 v4 => And.intro (fun c6 => And.intro (Or.inl rfl) (And.intro rfl (v4.1 c6))) (fun c6 => And.intro (Or.inr rfl) (And.intro rfl (v4.2 c6))))))))))))
theorem g10_inNet {g : Gl} {d : Nat} {Q : LV → Hp → Prop} {x1 : Int} {h : Hp} (X : inI x1 → L0 g d m10_inNet Q 0 [some (LR 10 608), some (LI x1)] h) : Good g (d + 1) i10_inNet [LR 10 608, LI x1] S0 h S0 Q := Good.body (M := m10_inNet) k10_inNet (Int.le_refl _) (Nat.le_of_ble_eq_true rfl) (fun hok => X (hok _ (List.mem_cons_of_mem _ List.mem_cons_self)))
set_option maxRecDepth 20000 in
theorem v10_oddOf {g : Gl} {d : Nat} {Q : Int → Hp → Prop} {x1 : Int} {h : Hp} (v0 : L0 g d m10_oddOf (retI Q) 7 [some (LR 10 608), some (LI x1), some (LI 0), some (LI (w32 (24 * x1)))] h) : L0 g d m10_oddOf (retI Q) 0 [some (LR 10 608), some (LI x1), none, none] h :=
 LW.run 40 [(7, [true, true, true, true])] k10_oddOf (v0)
set_option maxRecDepth 20000 in
theorem v10_oddOf_7 {g : Gl} {d : Nat} {Q : Int → Hp → Prop} {x1 y2 y3 : Int} {h : Hp} (v0 : 0 ≤ x1 ∧ x1 < 40 ∧ (((w32 ((w32 (24 * x1)) + (h 627 x1))) ≤ y3 → Q y2 h) ∧
 (¬ (w32 ((w32 (24 * x1)) + (h 627 x1))) ≤ y3 → 0 ≤ y3 ∧ y3 < 960 ∧ ((2 < (h 628 y3) → L0 g d m10_oddOf (retI Q) 7 [some (LR 10 608), some (LI x1), some (LI (w32 (y2 + 1))), some (LI (w32 (y3 + 1)))] h) ∧
 (¬ 2 < (h 628 y3) → ((¬ (h 628 y3) = 0 → L0 g d m10_oddOf (retI Q) 7 [some (LR 10 608), some (LI x1), some (LI (w32 (y2 + 0))), some (LI (w32 (y3 + 1)))] h) ∧
 ((h 628 y3) = 0 → 0 ≤ (h 629 y3) ∧ (h 629 y3) < 20 ∧ (((h 612 (h 629 y3)) = 0 ∨ (h 612 (h 629 y3)) = 1) → (((h 612 (h 629 y3)) = 0 → L0 g d m10_oddOf (retI Q) 7 [some (LR 10 608), some (LI x1), some (LI (w32 (y2 + 0))), some (LI (w32 (y3 + 1)))] h) ∧
 (¬ (h 612 (h 629 y3)) = 0 → L0 g d m10_oddOf (retI Q) 7 [some (LR 10 608), some (LI x1), some (LI (w32 (y2 + 1))), some (LI (w32 (y3 + 1)))] h)))))))))) : L0 g d m10_oddOf (retI Q) 7 [some (LR 10 608), some (LI x1), some (LI y2), some (LI y3)] h :=
 LW.run 40 [(7, [true, true, true, true])] k10_oddOf (And.intro (show (608 : Int) ≠ 0 by decide) (And.intro (show (627 : Int) ≠ 0 by decide) (And.intro v0.1 (And.intro v0.2.1 (And.intro (fun c1 => And.intro rfl (v0.2.2.1 c1)) (fun c1 => And.intro (show (608 : Int) ≠ 0 by decide) (And.intro (show (628 : Int) ≠ 0 by decide) (And.intro (v0.2.2.2 c1).1 (And.intro (v0.2.2.2 c1).2.1 (And.intro (fun c2 => ((v0.2.2.2 c1).2.2.1 c2)) (fun c2 => And.intro (show (608 : Int) ≠ 0 by decide) (And.intro (show (628 : Int) ≠ 0 by decide) (And.intro (v0.2.2.2 c1).1 (And.intro (v0.2.2.2 c1).2.1 (And.intro (fun c3 => (((v0.2.2.2 c1).2.2.2 c2).1 c3)) (fun c3 => And.intro (show (608 : Int) ≠ 0 by decide) (And.intro (show (608 : Int) ≠ 0 by decide) (And.intro (show (629 : Int) ≠ 0 by decide) (And.intro (v0.2.2.2 c1).1 (And.intro (v0.2.2.2 c1).2.1 (And.intro (show (612 : Int) ≠ 0 by decide) (And.intro (((v0.2.2.2 c1).2.2.2 c2).2 c3).1 (And.intro (((v0.2.2.2 c1).2.2.2 c2).2 c3).2.1 (fun c4 => And.intro (fun c5 => (((((v0.2.2.2 c1).2.2.2 c2).2 c3).2.2 c4).1 c5)) (fun c5 => (((((v0.2.2.2 c1).2.2.2 c2).2 c3).2.2 c4).2 c5))))))))))))))))))))))))))
theorem g10_oddOf {g : Gl} {d : Nat} {Q : LV → Hp → Prop} {x1 : Int} {h : Hp} (X : inI x1 → L0 g d m10_oddOf Q 0 [some (LR 10 608), some (LI x1), none, none] h) : Good g (d + 1) i10_oddOf [LR 10 608, LI x1] S0 h S0 Q := Good.body (M := m10_oddOf) k10_oddOf (Int.le_refl _) (Nat.le_of_ble_eq_true rfl) (fun hok => X (hok _ (List.mem_cons_of_mem _ List.mem_cons_self)))
set_option maxRecDepth 20000 in
theorem v10_namesOf {g : Gl} {d : Nat} {Q : Int → Hp → Prop} {x1 x2 : Int} {h : Hp} (v0 : L0 g d m10_namesOf (retI Q) 11 [some (LR 10 608), some (LI x1), some (LI x2), some (LI 0), some (LI 0), some (LI (w32 (24 * x1)))] h) : L0 g d m10_namesOf (retI Q) 0 [some (LR 10 608), some (LI x1), some (LI x2), none, none, none] h :=
 LW.run 40 [(11, [true, true, true, true, true, true])] k10_namesOf (v0)
set_option maxRecDepth 20000 in
theorem v10_namesOf_11 {g : Gl} {d : Nat} {Q : Int → Hp → Prop} {x1 x2 y3 y4 y5 : Int} {h : Hp} (v0 : 0 ≤ x1 ∧ x1 < 40 ∧ (((w32 ((w32 (24 * x1)) + (h 627 x1))) ≤ y5 → Q y3 h) ∧
 (¬ (w32 ((w32 (24 * x1)) + (h 627 x1))) ≤ y5 → 0 ≤ y5 ∧ y5 < 960 ∧ (((h 631 y5) < 0 → L0 g d m10_namesOf (retI Q) 11 [some (LR 10 608), some (LI x1), some (LI x2), some (LI y3), some (LI y4), some (LI (w32 (y5 + 1)))] h) ∧
 (¬ (h 631 y5) < 0 → ((¬ (h 628 y5) = 2 → L0 g d m10_namesOf (retI Q) 11 [some (LR 10 608), some (LI x1), some (LI x2), some (LI y3), some (LI y4), some (LI (w32 (y5 + 1)))] h) ∧
 ((h 628 y5) = 2 → ((x2 = 0 → L0 g d m10_namesOf (retI Q) 11 [some (LR 10 608), some (LI x1), some (LI x2), some (LI (w32 (y3 + 1))), some (LI (iorI y4 (ishlI 1 (h 631 y5)))), some (LI (w32 (y5 + 1)))] h) ∧
 (¬ x2 = 0 → ((¬ (iandI (ishrI y4 (h 631 y5)) 1) = 1 → L0 g d m10_namesOf (retI Q) 11 [some (LR 10 608), some (LI x1), some (LI x2), some (LI (w32 (y3 + 1))), some (LI (iorI y4 (ishlI 1 (h 631 y5)))), some (LI (w32 (y5 + 1)))] h) ∧
 ((iandI (ishrI y4 (h 631 y5)) 1) = 1 → L0 g d m10_namesOf (retI Q) 11 [some (LR 10 608), some (LI x1), some (LI x2), some (LI (w32 (y3 + 0))), some (LI (iorI y4 (ishlI 1 (h 631 y5)))), some (LI (w32 (y5 + 1)))] h))))))))))) : L0 g d m10_namesOf (retI Q) 11 [some (LR 10 608), some (LI x1), some (LI x2), some (LI y3), some (LI y4), some (LI y5)] h :=
 LW.run 40 [(11, [true, true, true, true, true, true])] k10_namesOf (And.intro (show (608 : Int) ≠ 0 by decide) (And.intro (show (627 : Int) ≠ 0 by decide) (And.intro v0.1 (And.intro v0.2.1 (And.intro (fun c1 => And.intro rfl (v0.2.2.1 c1)) (fun c1 => And.intro (show (608 : Int) ≠ 0 by decide) (And.intro (show (631 : Int) ≠ 0 by decide) (And.intro (v0.2.2.2 c1).1 (And.intro (v0.2.2.2 c1).2.1 (And.intro (fun c2 => ((v0.2.2.2 c1).2.2.1 c2)) (fun c2 => And.intro (show (608 : Int) ≠ 0 by decide) (And.intro (show (628 : Int) ≠ 0 by decide) (And.intro (v0.2.2.2 c1).1 (And.intro (v0.2.2.2 c1).2.1 (And.intro (fun c3 => (((v0.2.2.2 c1).2.2.2 c2).1 c3)) (fun c3 => And.intro (fun c4 => And.intro (show (608 : Int) ≠ 0 by decide) (And.intro (show (631 : Int) ≠ 0 by decide) (And.intro (v0.2.2.2 c1).1 (And.intro (v0.2.2.2 c1).2.1 (((((v0.2.2.2 c1).2.2.2 c2).2 c3).1 c4)))))) (fun c4 => And.intro (show (608 : Int) ≠ 0 by decide) (And.intro (show (631 : Int) ≠ 0 by decide) (And.intro (v0.2.2.2 c1).1 (And.intro (v0.2.2.2 c1).2.1 (And.intro (fun c5 => And.intro (show (608 : Int) ≠ 0 by decide) (And.intro (show (631 : Int) ≠ 0 by decide) (And.intro (v0.2.2.2 c1).1 (And.intro (v0.2.2.2 c1).2.1 ((((((v0.2.2.2 c1).2.2.2 c2).2 c3).2 c4).1 c5)))))) (fun c5 => And.intro (show (608 : Int) ≠ 0 by decide) (And.intro (show (631 : Int) ≠ 0 by decide) (And.intro (v0.2.2.2 c1).1 (And.intro (v0.2.2.2 c1).2.1 ((((((v0.2.2.2 c1).2.2.2 c2).2 c3).2 c4).2 c5)))))))))))))))))))))))))))
theorem g10_namesOf {g : Gl} {d : Nat} {Q : LV → Hp → Prop} {x1 x2 : Int} {h : Hp} (X : inI x1 → inI x2 → L0 g d m10_namesOf Q 0 [some (LR 10 608), some (LI x1), some (LI x2), none, none, none] h) : Good g (d + 1) i10_namesOf [LR 10 608, LI x1, LI x2] S0 h S0 Q := Good.body (M := m10_namesOf) k10_namesOf (Int.le_refl _) (Nat.le_of_ble_eq_true rfl) (fun hok => X (hok _ (List.mem_cons_of_mem _ List.mem_cons_self)) (hok _ (List.mem_cons_of_mem _ (List.mem_cons_of_mem _ List.mem_cons_self))))
set_option maxRecDepth 20000 in
theorem v10_count {g : Gl} {d : Nat} {Q : Int → Hp → Prop} {x1 : Int} {h : Hp} (v0 : (((x1 < 0 ∨ 8 < x1) → Q (-1002) h) ∧
 (x1 = 0 → Q (h 608 0) h) ∧
 (x1 = 1 → Q (h 608 2) h) ∧
 (x1 = 2 → Q (h 608 41) h) ∧
 (x1 = 3 → Q (h 608 42) h) ∧
 (x1 = 4 → Good g d i10_netSize [LR 10 608, LI 0] S0 h S0 (retI (fun r9 h7 =>
 Q r9 h7))) ∧
 (x1 = 5 → Good g d i10_steps [LR 10 608] S0 h S0 (retI (fun r13 h11 =>
 Q r13 h11))) ∧
 (x1 = 6 → Good g d i10_netSize [LR 10 608, LI 1] S0 h S0 (retI (fun r17 h15 =>
 Q r17 h15))) ∧
 (x1 = 7 → Q (h 608 7) h) ∧
 (x1 = 8 → Q (h 608 76) h))) : L0 g d m10_count (retI Q) 0 [some (LR 10 608), some (LI x1)] h :=
 LW.run 40 [] k10_count (And.intro (fun c1 => And.intro rfl (v0.1 c1)) (And.intro (fun c2 => And.intro (show (608 : Int) ≠ 0 by decide) (And.intro rfl (v0.2.1 c2))) (And.intro (fun c3 => And.intro (show (608 : Int) ≠ 0 by decide) (And.intro rfl (v0.2.2.1 c3))) (And.intro (fun c4 => And.intro (show (608 : Int) ≠ 0 by decide) (And.intro rfl (v0.2.2.2.1 c4))) (And.intro (fun c5 => And.intro (show (608 : Int) ≠ 0 by decide) (And.intro rfl (v0.2.2.2.2.1 c5))) (And.intro (fun c6 => And.intro (show (608 : Int) ≠ 0 by decide) (And.intro (Int.le_refl _) (Good.mI (v0.2.2.2.2.2.1 c6) (fun r9 h7 v8 => And.intro rfl v8)))) (And.intro (fun c10 => And.intro (show (608 : Int) ≠ 0 by decide) (And.intro (Int.le_refl _) (Good.mI (v0.2.2.2.2.2.2.1 c10) (fun r13 h11 v12 => And.intro rfl v12)))) (And.intro (fun c14 => And.intro (show (608 : Int) ≠ 0 by decide) (And.intro (Int.le_refl _) (Good.mI (v0.2.2.2.2.2.2.2.1 c14) (fun r17 h15 v16 => And.intro rfl v16)))) (And.intro (fun c18 => And.intro (show (608 : Int) ≠ 0 by decide) (And.intro rfl (v0.2.2.2.2.2.2.2.2.1 c18))) (And.intro (fun c19 => And.intro (show (608 : Int) ≠ 0 by decide) (And.intro rfl (v0.2.2.2.2.2.2.2.2.2 c19))) (trivial)))))))))))
theorem g10_count {g : Gl} {d : Nat} {Q : LV → Hp → Prop} {x1 : Int} {h : Hp} (X : inI x1 → L0 g d m10_count Q 0 [some (LR 10 608), some (LI x1)] h) : Good g (d + 1) i10_count [LR 10 608, LI x1] S0 h S0 Q := Good.body (M := m10_count) k10_count (Int.le_refl _) (Nat.le_of_ble_eq_true rfl) (fun hok => X (hok _ (List.mem_cons_of_mem _ List.mem_cons_self)))
set_option maxRecDepth 20000 in
theorem v10_netSize {g : Gl} {d : Nat} {Q : Int → Hp → Prop} {x1 : Int} {h : Hp} (v0 : L0 g d m10_netSize (retI Q) 4 [some (LR 10 608), some (LI x1), some (LI 0), some (LI 0)] h) : L0 g d m10_netSize (retI Q) 0 [some (LR 10 608), some (LI x1), none, none] h :=
 LW.run 40 [(4, [true, true, true, true])] k10_netSize (v0)
set_option maxRecDepth 20000 in
theorem v10_netSize_4 {g : Gl} {d : Nat} {Q : Int → Hp → Prop} {x1 y2 y3 : Int} {h : Hp} (v0 : ((40 ≤ y3 → Q y2 h) ∧
 (¬ 40 ≤ y3 → Good g d i10_inNet [LR 10 608, LI y3] S0 h S0 (retI (fun r4 h2 =>
 ((r4 = 0 → L0 g d m10_netSize (retI Q) 4 [some (LR 10 608), some (LI x1), some (LI (w32 (y2 + 0))), some (LI (w32 (y3 + 1)))] h2) ∧
 (¬ r4 = 0 → ((x1 = 0 → L0 g d m10_netSize (retI Q) 4 [some (LR 10 608), some (LI x1), some (LI (w32 (y2 + 1))), some (LI (w32 (y3 + 1)))] h2) ∧
 (¬ x1 = 0 → 0 ≤ y3 ∧ y3 < 40 ∧ L0 g d m10_netSize (retI Q) 4 [some (LR 10 608), some (LI x1), some (LI (w32 (y2 + (h2 627 y3)))), some (LI (w32 (y3 + 1)))] h2))))))))) : L0 g d m10_netSize (retI Q) 4 [some (LR 10 608), some (LI x1), some (LI y2), some (LI y3)] h :=
 LW.run 40 [(4, [true, true, true, true])] k10_netSize (And.intro (fun c1 => And.intro rfl (v0.1 c1)) (fun c1 => And.intro (show (608 : Int) ≠ 0 by decide) (And.intro (Int.le_refl _) (Good.mI (v0.2 c1) (fun r4 h2 v3 => And.intro (fun c5 => (v3.1 c5)) (fun c5 => And.intro (fun c6 => ((v3.2 c5).1 c6)) (fun c6 => And.intro (show (608 : Int) ≠ 0 by decide) (And.intro (show (627 : Int) ≠ 0 by decide) (And.intro ((v3.2 c5).2 c6).1 (And.intro ((v3.2 c5).2 c6).2.1 (((v3.2 c5).2 c6).2.2)))))))))))
theorem g10_netSize {g : Gl} {d : Nat} {Q : LV → Hp → Prop} {x1 : Int} {h : Hp} (X : inI x1 → L0 g d m10_netSize Q 0 [some (LR 10 608), some (LI x1), none, none] h) : Good g (d + 1) i10_netSize [LR 10 608, LI x1] S0 h S0 Q := Good.body (M := m10_netSize) k10_netSize (Int.le_refl _) (Nat.le_of_ble_eq_true rfl) (fun hok => X (hok _ (List.mem_cons_of_mem _ List.mem_cons_self)))
set_option maxRecDepth 20000 in
theorem v10_told {g : Gl} {d : Nat} {Q : Int → Hp → Prop} {x1 x2 : Int} {h : Hp} (v0 : Good g d i10_noPattern [LR 10 608, LI x1] S0 h S0 (retI (fun r3 h1 =>
 ((r3 = 0 → (((x2 < 0 ∨ 5 < x2) → Q (-1002) h1) ∧
 (x2 = 0 → 0 ≤ x1 ∧ x1 < 40 ∧ Q (h1 626 x1) h1) ∧
 (x2 = 1 → 0 ≤ x1 ∧ x1 < 40 ∧ Q (h1 627 x1) h1) ∧
 (x2 = 2 → Good g d i10_inNet [LR 10 608, LI x1] S0 h1 S0 (retI (fun r11 h9 =>
 ((r11 = 0 → Q 0 h9) ∧
 (¬ r11 = 0 → Q 1 h9))))) ∧
 (x2 = 3 → Good g d i10_namesOf [LR 10 608, LI x1, LI 0] S0 h1 S0 (retI (fun r16 h14 =>
 Q r16 h14))) ∧
 (x2 = 4 → Good g d i10_namesOf [LR 10 608, LI x1, LI 1] S0 h1 S0 (retI (fun r20 h18 =>
 Q r20 h18))) ∧
 (x2 = 5 → Good g d i10_oddOf [LR 10 608, LI x1] S0 h1 S0 (retI (fun r24 h22 =>
 Q r24 h22))))) ∧
 (¬ r3 = 0 → Q (-1001) h1))))) : L0 g d m10_told (retI Q) 0 [some (LR 10 608), some (LI x1), some (LI x2)] h :=
 LW.run 40 [] k10_told (And.intro (show (608 : Int) ≠ 0 by decide) (And.intro (Int.le_refl _) (Good.mI v0 (fun r3 h1 v2 => And.intro (fun c4 => And.intro (fun c5 => And.intro rfl ((v2.1 c4).1 c5)) (And.intro (fun c6 => And.intro (show (608 : Int) ≠ 0 by decide) (And.intro (show (626 : Int) ≠ 0 by decide) (And.intro ((v2.1 c4).2.1 c6).1 (And.intro ((v2.1 c4).2.1 c6).2.1 (And.intro rfl ((v2.1 c4).2.1 c6).2.2))))) (And.intro (fun c7 => And.intro (show (608 : Int) ≠ 0 by decide) (And.intro (show (627 : Int) ≠ 0 by decide) (And.intro ((v2.1 c4).2.2.1 c7).1 (And.intro ((v2.1 c4).2.2.1 c7).2.1 (And.intro rfl ((v2.1 c4).2.2.1 c7).2.2))))) (And.intro (fun c8 => And.intro (show (608 : Int) ≠ 0 by decide) (And.intro (Int.le_refl _) (Good.mI ((v2.1 c4).2.2.2.1 c8) (fun r11 h9 v10 => And.intro (fun c12 => And.intro rfl (v10.1 c12)) (fun c12 => And.intro rfl (v10.2 c12)))))) (And.intro (fun c13 => And.intro (show (608 : Int) ≠ 0 by decide) (And.intro (Int.le_refl _) (Good.mI ((v2.1 c4).2.2.2.2.1 c13) (fun r16 h14 v15 => And.intro rfl v15)))) (And.intro (fun c17 => And.intro (show (608 : Int) ≠ 0 by decide) (And.intro (Int.le_refl _) (Good.mI ((v2.1 c4).2.2.2.2.2.1 c17) (fun r20 h18 v19 => And.intro rfl v19)))) (And.intro (fun c21 => And.intro (show (608 : Int) ≠ 0 by decide) (And.intro (Int.le_refl _) (Good.mI ((v2.1 c4).2.2.2.2.2.2 c21) (fun r24 h22 v23 => And.intro rfl v23)))) (trivial)))))))) (fun c4 => And.intro rfl (v2.2 c4))))))
theorem g10_told {g : Gl} {d : Nat} {Q : LV → Hp → Prop} {x1 x2 : Int} {h : Hp} (X : inI x1 → inI x2 → L0 g d m10_told Q 0 [some (LR 10 608), some (LI x1), some (LI x2)] h) : Good g (d + 1) i10_told [LR 10 608, LI x1, LI x2] S0 h S0 Q := Good.body (M := m10_told) k10_told (Int.le_refl _) (Nat.le_of_ble_eq_true rfl) (fun hok => X (hok _ (List.mem_cons_of_mem _ List.mem_cons_self)) (hok _ (List.mem_cons_of_mem _ (List.mem_cons_of_mem _ List.mem_cons_self))))
set_option maxRecDepth 20000 in
theorem v10_kindOf {g : Gl} {d : Nat} {Q : Int → Hp → Prop} {x1 : Int} {h : Hp} (v0 : 0 ≤ x1 ∧ x1 < 240 ∧ ((0 ≤ (h 637 x1) → (h 637 x1) < 20 ∧ Q (h 610 (h 637 x1)) h) ∧
 (¬ 0 ≤ (h 637 x1) → Q 0 h))) : L0 g d m10_kindOf (retI Q) 0 [some (LR 10 608), some (LI x1)] h :=
 LW.run 40 [] k10_kindOf (And.intro (show (608 : Int) ≠ 0 by decide) (And.intro (show (637 : Int) ≠ 0 by decide) (And.intro v0.1 (And.intro v0.2.1 (And.intro (fun c1 => And.intro (show (608 : Int) ≠ 0 by decide) (And.intro (show (608 : Int) ≠ 0 by decide) (And.intro (show (637 : Int) ≠ 0 by decide) (And.intro v0.1 (And.intro v0.2.1 (And.intro (show (610 : Int) ≠ 0 by decide) (And.intro c1 (And.intro (v0.2.2.1 c1).1 (And.intro rfl (v0.2.2.1 c1).2))))))))) (fun c1 => And.intro rfl (v0.2.2.2 c1)))))))
theorem g10_kindOf {g : Gl} {d : Nat} {Q : LV → Hp → Prop} {x1 : Int} {h : Hp} (X : inI x1 → L0 g d m10_kindOf Q 0 [some (LR 10 608), some (LI x1)] h) : Good g (d + 1) i10_kindOf [LR 10 608, LI x1] S0 h S0 Q := Good.body (M := m10_kindOf) k10_kindOf (Int.le_refl _) (Nat.le_of_ble_eq_true rfl) (fun hok => X (hok _ (List.mem_cons_of_mem _ List.mem_cons_self)))
set_option maxRecDepth 20000 in
theorem v10_node {g : Gl} {d : Nat} {Q : Int → Hp → Prop} {x1 x2 : Int} {h : Hp} (v0 : Good g d i10_noNode [LR 10 608, LI x1] S0 h S0 (retI (fun r3 h1 =>
 ((r3 = 0 → (((x2 < 0 ∨ 4 < x2) → Q (-1002) h1) ∧
 (x2 = 0 → 0 ≤ x1 ∧ x1 < 240 ∧ Q (h1 637 x1) h1) ∧
 (x2 = 1 → 0 ≤ x1 ∧ x1 < 240 ∧ Q (h1 638 x1) h1) ∧
 (x2 = 2 → 0 ≤ x1 ∧ x1 < 120 ∧ Q (h1 640 x1) h1) ∧
 (x2 = 3 → 0 ≤ x1 ∧ x1 < 240 ∧ Q (w32 ((h1 639 x1) - x1)) h1) ∧
 (x2 = 4 → Good g d i10_kindOf [LR 10 608, LI x1] S0 h1 S0 (retI (fun r13 h11 =>
 Q r13 h11))))) ∧
 (¬ r3 = 0 → Q (-1001) h1))))) : L0 g d m10_node (retL Q) 0 [some (LR 10 608), some (LI x1), some (LI x2)] h :=
 LW.run 40 [] k10_node (And.intro (show (608 : Int) ≠ 0 by decide) (And.intro (Int.le_refl _) (Good.mI v0 (fun r3 h1 v2 => And.intro (fun c4 => And.intro (fun c5 => And.intro rfl ((v2.1 c4).1 c5)) (And.intro (fun c6 => And.intro (show (608 : Int) ≠ 0 by decide) (And.intro (show (637 : Int) ≠ 0 by decide) (And.intro ((v2.1 c4).2.1 c6).1 (And.intro ((v2.1 c4).2.1 c6).2.1 (And.intro rfl ((v2.1 c4).2.1 c6).2.2))))) (And.intro (fun c7 => And.intro (show (608 : Int) ≠ 0 by decide) (And.intro (show (638 : Int) ≠ 0 by decide) (And.intro ((v2.1 c4).2.2.1 c7).1 (And.intro ((v2.1 c4).2.2.1 c7).2.1 (And.intro rfl ((v2.1 c4).2.2.1 c7).2.2))))) (And.intro (fun c8 => And.intro (show (608 : Int) ≠ 0 by decide) (And.intro (show (640 : Int) ≠ 0 by decide) (And.intro ((v2.1 c4).2.2.2.1 c8).1 (And.intro ((v2.1 c4).2.2.2.1 c8).2.1 (And.intro rfl ((v2.1 c4).2.2.2.1 c8).2.2))))) (And.intro (fun c9 => And.intro (show (608 : Int) ≠ 0 by decide) (And.intro (show (639 : Int) ≠ 0 by decide) (And.intro ((v2.1 c4).2.2.2.2.1 c9).1 (And.intro ((v2.1 c4).2.2.2.2.1 c9).2.1 (And.intro rfl ((v2.1 c4).2.2.2.2.1 c9).2.2))))) (And.intro (fun c10 => And.intro (show (608 : Int) ≠ 0 by decide) (And.intro (Int.le_refl _) (Good.mI ((v2.1 c4).2.2.2.2.2 c10) (fun r13 h11 v12 => And.intro rfl v12)))) (trivial))))))) (fun c4 => And.intro rfl (v2.2 c4))))))
theorem g10_node {g : Gl} {d : Nat} {Q : LV → Hp → Prop} {x1 x2 : Int} {h : Hp} (X : inI x1 → inI x2 → L0 g d m10_node Q 0 [some (LR 10 608), some (LI x1), some (LI x2)] h) : Good g (d + 1) i10_node [LR 10 608, LI x1, LI x2] S0 h S0 Q := Good.body (M := m10_node) k10_node (Int.le_refl _) (Nat.le_of_ble_eq_true rfl) (fun hok => X (hok _ (List.mem_cons_of_mem _ List.mem_cons_self)) (hok _ (List.mem_cons_of_mem _ (List.mem_cons_of_mem _ List.mem_cons_self))))
set_option maxRecDepth 20000 in
theorem v10_areAlike {g : Gl} {d : Nat} {Q : Int → Hp → Prop} {x1 x2 : Int} {h : Hp} (v0 : 0 ≤ x1 ∧ x1 < 240 ∧ 0 ≤ x2 ∧ x2 < 240 ∧ ((¬ (w32 ((h 639 x1) - x1)) = (w32 ((h 639 x2) - x2)) → L0 g d m10_areAlike (retI Q) 28 [some (LR 10 608), some (LI x1), some (LI x2), some (LI 0), some (LI 0)] h) ∧
 ((w32 ((h 639 x1) - x1)) = (w32 ((h 639 x2) - x2)) → L0 g d m10_areAlike (retI Q) 28 [some (LR 10 608), some (LI x1), some (LI x2), some (LI 1), some (LI 0)] h))) : L0 g d m10_areAlike (retI Q) 0 [some (LR 10 608), some (LI x1), some (LI x2), none, none] h :=
 LW.run 40 [(28, [true, true, true, true, true])] k10_areAlike (And.intro (show (608 : Int) ≠ 0 by decide) (And.intro (show (639 : Int) ≠ 0 by decide) (And.intro v0.1 (And.intro v0.2.1 (And.intro (show (608 : Int) ≠ 0 by decide) (And.intro (show (639 : Int) ≠ 0 by decide) (And.intro v0.2.2.1 (And.intro v0.2.2.2.1 (And.intro (fun c1 => (v0.2.2.2.2.1 c1)) (fun c1 => (v0.2.2.2.2.2 c1)))))))))))
set_option maxRecDepth 20000 in
theorem v10_areAlike_28 {g : Gl} {d : Nat} {Q : Int → Hp → Prop} {x1 x2 y3 y4 : Int} {h : Hp} (v0 : 0 ≤ x1 ∧ x1 < 240 ∧ (((h 639 x1) ≤ (w32 (x1 + y4)) → (y3 = 0 ∨ y3 = 1) ∧ Q y3 h) ∧
 (¬ (h 639 x1) ≤ (w32 (x1 + y4)) → ((y3 = 0 → (y3 = 0 ∨ y3 = 1) ∧ Q y3 h) ∧
 (¬ y3 = 0 → 0 ≤ ((w32 (x1 + y4))) ∧ ((w32 (x1 + y4))) < 240 ∧ 0 ≤ ((w32 (x2 + y4))) ∧ ((w32 (x2 + y4))) < 240 ∧ ((¬ (h 637 (w32 (x1 + y4))) = (h 637 (w32 (x2 + y4))) → L0 g d m10_areAlike (retI Q) 28 [some (LR 10 608), some (LI x1), some (LI x2), some (LI 0), some (LI (w32 (y4 + 1)))] h) ∧
 ((h 637 (w32 (x1 + y4))) = (h 637 (w32 (x2 + y4))) → ((¬ (lcmpI (h 638 (w32 (x1 + y4))) (h 638 (w32 (x2 + y4)))) = 0 → L0 g d m10_areAlike (retI Q) 28 [some (LR 10 608), some (LI x1), some (LI x2), some (LI 0), some (LI (w32 (y4 + 1)))] h) ∧
 ((lcmpI (h 638 (w32 (x1 + y4))) (h 638 (w32 (x2 + y4)))) = 0 → L0 g d m10_areAlike (retI Q) 28 [some (LR 10 608), some (LI x1), some (LI x2), some (LI 1), some (LI (w32 (y4 + 1)))] h))))))))) : L0 g d m10_areAlike (retI Q) 28 [some (LR 10 608), some (LI x1), some (LI x2), some (LI y3), some (LI y4)] h :=
 LW.run 40 [(28, [true, true, true, true, true])] k10_areAlike (And.intro (show (608 : Int) ≠ 0 by decide) (And.intro (show (639 : Int) ≠ 0 by decide) (And.intro v0.1 (And.intro v0.2.1 (And.intro (fun c1 => And.intro (v0.2.2.1 c1).1 (And.intro rfl (v0.2.2.1 c1).2)) (fun c1 => And.intro (fun c2 => And.intro ((v0.2.2.2 c1).1 c2).1 (And.intro rfl ((v0.2.2.2 c1).1 c2).2)) (fun c2 => And.intro (show (608 : Int) ≠ 0 by decide) (And.intro (show (637 : Int) ≠ 0 by decide) (And.intro ((v0.2.2.2 c1).2 c2).1 (And.intro ((v0.2.2.2 c1).2 c2).2.1 (And.intro (show (608 : Int) ≠ 0 by decide) (And.intro (show (637 : Int) ≠ 0 by decide) (And.intro ((v0.2.2.2 c1).2 c2).2.2.1 (And.intro ((v0.2.2.2 c1).2 c2).2.2.2.1 (And.intro (fun c3 => (((v0.2.2.2 c1).2 c2).2.2.2.2.1 c3)) (fun c3 => And.intro (show (608 : Int) ≠ 0 by decide) (And.intro (show (638 : Int) ≠ 0 by decide) (And.intro ((v0.2.2.2 c1).2 c2).1 (And.intro ((v0.2.2.2 c1).2 c2).2.1 (And.intro (show (608 : Int) ≠ 0 by decide) (And.intro (show (638 : Int) ≠ 0 by decide) (And.intro ((v0.2.2.2 c1).2 c2).2.2.1 (And.intro ((v0.2.2.2 c1).2 c2).2.2.2.1 (And.intro (fun c4 => ((((v0.2.2.2 c1).2 c2).2.2.2.2.2 c3).1 c4)) (fun c4 => ((((v0.2.2.2 c1).2 c2).2.2.2.2.2 c3).2 c4))))))))))))))))))))))))))
theorem g10_areAlike {g : Gl} {d : Nat} {Q : LV → Hp → Prop} {x1 x2 : Int} {h : Hp} (X : inI x1 → inI x2 → L0 g d m10_areAlike Q 0 [some (LR 10 608), some (LI x1), some (LI x2), none, none] h) : Good g (d + 1) i10_areAlike [LR 10 608, LI x1, LI x2] S0 h S0 Q := Good.body (M := m10_areAlike) k10_areAlike (Int.le_refl _) (Nat.le_of_ble_eq_true rfl) (fun hok => X (hok _ (List.mem_cons_of_mem _ List.mem_cons_self)) (hok _ (List.mem_cons_of_mem _ (List.mem_cons_of_mem _ List.mem_cons_self))))
set_option maxRecDepth 20000 in
theorem v10_alike {g : Gl} {d : Nat} {Q : Int → Hp → Prop} {x1 x2 : Int} {h : Hp} (v0 : Good g d i10_noNode [LR 10 608, LI x1] S0 h S0 (retI (fun r3 h1 =>
 ((¬ r3 = 0 → Q (-1001) h1) ∧
 (r3 = 0 → Good g d i10_noNode [LR 10 608, LI x2] S0 h1 S0 (retI (fun r7 h5 =>
 ((r7 = 0 → Good g d i10_areAlike [LR 10 608, LI x1, LI x2] S0 h5 S0 (retI (fun r11 h9 =>
 ((r11 = 0 → Q 0 h9) ∧
 (¬ r11 = 0 → Q 1 h9))))) ∧
 (¬ r7 = 0 → Q (-1001) h5))))))))) : L0 g d m10_alike (retI Q) 0 [some (LR 10 608), some (LI x1), some (LI x2)] h :=
 LW.run 40 [] k10_alike (And.intro (show (608 : Int) ≠ 0 by decide) (And.intro (Int.le_refl _) (Good.mI v0 (fun r3 h1 v2 => And.intro (fun c4 => And.intro rfl (v2.1 c4)) (fun c4 => And.intro (show (608 : Int) ≠ 0 by decide) (And.intro (Int.le_refl _) (Good.mI (v2.2 c4) (fun r7 h5 v6 => And.intro (fun c8 => And.intro (show (608 : Int) ≠ 0 by decide) (And.intro (Int.le_refl _) (Good.mI (v6.1 c8) (fun r11 h9 v10 => And.intro (fun c12 => And.intro rfl (v10.1 c12)) (fun c12 => And.intro rfl (v10.2 c12)))))) (fun c8 => And.intro rfl (v6.2 c8))))))))))
theorem g10_alike {g : Gl} {d : Nat} {Q : LV → Hp → Prop} {x1 x2 : Int} {h : Hp} (X : inI x1 → inI x2 → L0 g d m10_alike Q 0 [some (LR 10 608), some (LI x1), some (LI x2)] h) : Good g (d + 1) i10_alike [LR 10 608, LI x1, LI x2] S0 h S0 Q := Good.body (M := m10_alike) k10_alike (Int.le_refl _) (Nat.le_of_ble_eq_true rfl) (fun hok => X (hok _ (List.mem_cons_of_mem _ List.mem_cons_self)) (hok _ (List.mem_cons_of_mem _ (List.mem_cons_of_mem _ List.mem_cons_self))))
