/-! constructors: what their stretches come to -/
set_option maxRecDepth 20000 in
theorem v0_init {g : Gl} {d : Nat} {Q : Hp → Prop} {w : Int} {h : Hp} {Sb S S9 : Sx} (hw : 4 ≤ w) (v0 : SH S.1 = (20, 300) ∧ S.1 + 1 ≤ S9.1 ∧ ∀ T1 : Sx, T1 = (S.1 + 1, sclr S.2 S.1) →
 ∀ h2 : Hp, h2 = hclr h S.1 →
 ∀ T3 : Sx, T3 = (T1.1, sup T1.2 0 w 0 S.1) →
 T3 = S9 ∧ Q h2) : LW g d m0_init Sb S9 (retV Q) 0 [some (LR 0 w)] [] S h :=
 LW.run 40 [] k0_init (And.intro (show w ≠ 0 from z4 hw) (And.intro v0.1 (And.intro (show 20 < 24 by decide) (And.intro (show (0 : Int) ≤ 300 by decide) (And.intro v0.2.1 (And.intro (show w ≠ 0 from z4 hw) ((((v0.2.2 _ rfl) _ rfl) _ rfl))))))))
theorem g0_init {g : Gl} {d : Nat} {Q : LV → Hp → Prop} {S S9 : Sx} {w : Int} {h : Hp} (hS : S.1 ≤ S9.1) (X : LW g d m0_init S S9 Q 0 [some (LR 0 w)] [] S h) : Good g (d + 1) i0_init [LR 0 w] S h S9 Q := Good.body (M := m0_init) k0_init hS (Nat.le_of_ble_eq_true rfl) (fun _ => X)
set_option maxRecDepth 20000 in
theorem v8_init {g : Gl} {d : Nat} {Q : Hp → Prop} {t x1 : Int} {h : Hp} {Sb S S9 : Sx} (ht : 4 ≤ t) (v0 : S.1 ≤ S9.1 ∧ SH S.1 = (20, (max x1 0)) ∧ 0 ≤ (max x1 0) ∧ S.1 + 1 ≤ S9.1 ∧ ∀ T1 : Sx, T1 = (S.1 + 1, sclr S.2 S.1) →
 ∀ h2 : Hp, h2 = hclr h S.1 →
 ∀ T3 : Sx, T3 = (T1.1, sup T1.2 8 t 0 S.1) →
 T3 = S9 ∧ Q h2) : LW g d m8_init Sb S9 (retV Q) 0 [some (LR 8 t), some (LI x1)] [] S h :=
 LW.run 40 [] k8_init (And.intro (show t ≠ 0 from z4 ht) (And.intro v0.1 (And.intro v0.2.1 (And.intro (show 20 < 24 by decide) (And.intro v0.2.2.1 (And.intro v0.2.2.2.1 (And.intro (show t ≠ 0 from z4 ht) ((((v0.2.2.2.2 _ rfl) _ rfl) _ rfl)))))))))
theorem g8_init {g : Gl} {d : Nat} {Q : LV → Hp → Prop} {S S9 : Sx} {t x1 : Int} {h : Hp} (hS : S.1 ≤ S9.1) (X : LW g d m8_init S S9 Q 0 [some (LR 8 t), some (LI x1)] [] S h) : Good g (d + 1) i8_init [LR 8 t, LI x1] S h S9 Q := Good.body (M := m8_init) k8_init hS (Nat.le_of_ble_eq_true rfl) (fun _ => X)
set_option maxRecDepth 20000 in
theorem v5_init {g : Gl} {d : Nat} {Q : Hp → Prop} {n x1 : Int} {h : Hp} {Sb S S9 : Sx} (hn : 4 ≤ n) (v0 : S.1 ≤ S9.1 ∧ SH S.1 = (20, (max x1 0)) ∧ 0 ≤ (max x1 0) ∧ S.1 + 1 ≤ S9.1 ∧ ∀ T1 : Sx, T1 = (S.1 + 1, sclr S.2 S.1) →
 ∀ h2 : Hp, h2 = hclr h S.1 →
 ∀ T3 : Sx, T3 = (T1.1, sup T1.2 5 n 0 S.1) →
 SH T3.1 = (20, (max x1 0)) ∧ T3.1 + 1 ≤ S9.1 ∧ ∀ T4 : Sx, T4 = (T3.1 + 1, sclr T3.2 T3.1) →
 ∀ h5 : Hp, h5 = hclr h2 T3.1 →
 ∀ T6 : Sx, T6 = (T4.1, sup T4.2 5 n 1 T3.1) →
 SH T6.1 = (20, (max x1 0)) ∧ T6.1 + 1 ≤ S9.1 ∧ ∀ T7 : Sx, T7 = (T6.1 + 1, sclr T6.2 T6.1) →
 ∀ h8 : Hp, h8 = hclr h5 T6.1 →
 ∀ T9 : Sx, T9 = (T7.1, sup T7.2 5 n 2 T6.1) →
 SH T9.1 = (20, (max x1 0)) ∧ T9.1 + 1 ≤ S9.1 ∧ ∀ T10 : Sx, T10 = (T9.1 + 1, sclr T9.2 T9.1) →
 ∀ h11 : Hp, h11 = hclr h8 T9.1 →
 ∀ T12 : Sx, T12 = (T10.1, sup T10.2 5 n 3 T9.1) →
 SH T12.1 = (22, (max x1 0)) ∧ T12.1 + 1 ≤ S9.1 ∧ ∀ T13 : Sx, T13 = (T12.1 + 1, sclr T12.2 T12.1) →
 ∀ h14 : Hp, h14 = hclr h11 T12.1 →
 ∀ T15 : Sx, T15 = (T13.1, sup T13.2 5 n 4 T12.1) →
 SH T15.1 = (21, (max x1 0)) ∧ T15.1 + 1 ≤ S9.1 ∧ ∀ T16 : Sx, T16 = (T15.1 + 1, sclr T15.2 T15.1) →
 ∀ h17 : Hp, h17 = hclr h14 T15.1 →
 ∀ T18 : Sx, T18 = (T16.1, sup T16.2 5 n 5 T15.1) →
 SH T18.1 = (21, (max x1 0)) ∧ T18.1 + 1 ≤ S9.1 ∧ ∀ T19 : Sx, T19 = (T18.1 + 1, sclr T18.2 T18.1) →
 ∀ h20 : Hp, h20 = hclr h17 T18.1 →
 ∀ T21 : Sx, T21 = (T19.1, sup T19.2 5 n 6 T18.1) →
 SH T21.1 = (20, (max x1 0)) ∧ T21.1 + 1 ≤ S9.1 ∧ ∀ T22 : Sx, T22 = (T21.1 + 1, sclr T21.2 T21.1) →
 ∀ h23 : Hp, h23 = hclr h20 T21.1 →
 ∀ T24 : Sx, T24 = (T22.1, sup T22.2 5 n 7 T21.1) →
 SH T24.1 = (20, (max x1 0)) ∧ T24.1 + 1 ≤ S9.1 ∧ ∀ T25 : Sx, T25 = (T24.1 + 1, sclr T24.2 T24.1) →
 ∀ h26 : Hp, h26 = hclr h23 T24.1 →
 ∀ T27 : Sx, T27 = (T25.1, sup T25.2 5 n 8 T24.1) →
 T27 = S9 ∧ Q h26) : LW g d m5_init Sb S9 (retV Q) 0 [some (LR 5 n), some (LI x1), none] [] S h :=
 LW.run 40 [] k5_init (And.intro (show n ≠ 0 from z4 hn) (And.intro v0.1 (And.intro v0.2.1 (And.intro (show 20 < 24 by decide) (And.intro v0.2.2.1 (And.intro v0.2.2.2.1 (And.intro (show n ≠ 0 from z4 hn) (And.intro (((v0.2.2.2.2 _ rfl) _ rfl) _ rfl).1 (And.intro (show 20 < 24 by decide) (And.intro v0.2.2.1 (And.intro (((v0.2.2.2.2 _ rfl) _ rfl) _ rfl).2.1 (And.intro (show n ≠ 0 from z4 hn) (And.intro ((((((v0.2.2.2.2 _ rfl) _ rfl) _ rfl).2.2 _ rfl) _ rfl) _ rfl).1 (And.intro (show 20 < 24 by decide) (And.intro v0.2.2.1 (And.intro ((((((v0.2.2.2.2 _ rfl) _ rfl) _ rfl).2.2 _ rfl) _ rfl) _ rfl).2.1 (And.intro (show n ≠ 0 from z4 hn) (And.intro (((((((((v0.2.2.2.2 _ rfl) _ rfl) _ rfl).2.2 _ rfl) _ rfl) _ rfl).2.2 _ rfl) _ rfl) _ rfl).1 (And.intro (show 20 < 24 by decide) (And.intro v0.2.2.1 (And.intro (((((((((v0.2.2.2.2 _ rfl) _ rfl) _ rfl).2.2 _ rfl) _ rfl) _ rfl).2.2 _ rfl) _ rfl) _ rfl).2.1 (And.intro (show n ≠ 0 from z4 hn) (And.intro ((((((((((((v0.2.2.2.2 _ rfl) _ rfl) _ rfl).2.2 _ rfl) _ rfl) _ rfl).2.2 _ rfl) _ rfl) _ rfl).2.2 _ rfl) _ rfl) _ rfl).1 (And.intro (show 22 < 24 by decide) (And.intro v0.2.2.1 (And.intro ((((((((((((v0.2.2.2.2 _ rfl) _ rfl) _ rfl).2.2 _ rfl) _ rfl) _ rfl).2.2 _ rfl) _ rfl) _ rfl).2.2 _ rfl) _ rfl) _ rfl).2.1 (And.intro (show n ≠ 0 from z4 hn) (And.intro (((((((((((((((v0.2.2.2.2 _ rfl) _ rfl) _ rfl).2.2 _ rfl) _ rfl) _ rfl).2.2 _ rfl) _ rfl) _ rfl).2.2 _ rfl) _ rfl) _ rfl).2.2 _ rfl) _ rfl) _ rfl).1 (And.intro (show 21 < 24 by decide) (And.intro v0.2.2.1 (And.intro (((((((((((((((v0.2.2.2.2 _ rfl) _ rfl) _ rfl).2.2 _ rfl) _ rfl) _ rfl).2.2 _ rfl) _ rfl) _ rfl).2.2 _ rfl) _ rfl) _ rfl).2.2 _ rfl) _ rfl) _ rfl).2.1 (And.intro (show n ≠ 0 from z4 hn) (And.intro ((((((((((((((((((v0.2.2.2.2 _ rfl) _ rfl) _ rfl).2.2 _ rfl) _ rfl) _ rfl).2.2 _ rfl) _ rfl) _ rfl).2.2 _ rfl) _ rfl) _ rfl).2.2 _ rfl) _ rfl) _ rfl).2.2 _ rfl) _ rfl) _ rfl).1 (And.intro (show 21 < 24 by decide) (And.intro v0.2.2.1 (And.intro ((((((((((((((((((v0.2.2.2.2 _ rfl) _ rfl) _ rfl).2.2 _ rfl) _ rfl) _ rfl).2.2 _ rfl) _ rfl) _ rfl).2.2 _ rfl) _ rfl) _ rfl).2.2 _ rfl) _ rfl) _ rfl).2.2 _ rfl) _ rfl) _ rfl).2.1 (And.intro (show n ≠ 0 from z4 hn) (And.intro (((((((((((((((((((((v0.2.2.2.2 _ rfl) _ rfl) _ rfl).2.2 _ rfl) _ rfl) _ rfl).2.2 _ rfl) _ rfl) _ rfl).2.2 _ rfl) _ rfl) _ rfl).2.2 _ rfl) _ rfl) _ rfl).2.2 _ rfl) _ rfl) _ rfl).2.2 _ rfl) _ rfl) _ rfl).1 (And.intro (show 20 < 24 by decide) (And.intro v0.2.2.1 (And.intro (((((((((((((((((((((v0.2.2.2.2 _ rfl) _ rfl) _ rfl).2.2 _ rfl) _ rfl) _ rfl).2.2 _ rfl) _ rfl) _ rfl).2.2 _ rfl) _ rfl) _ rfl).2.2 _ rfl) _ rfl) _ rfl).2.2 _ rfl) _ rfl) _ rfl).2.2 _ rfl) _ rfl) _ rfl).2.1 (And.intro (show n ≠ 0 from z4 hn) (And.intro ((((((((((((((((((((((((v0.2.2.2.2 _ rfl) _ rfl) _ rfl).2.2 _ rfl) _ rfl) _ rfl).2.2 _ rfl) _ rfl) _ rfl).2.2 _ rfl) _ rfl) _ rfl).2.2 _ rfl) _ rfl) _ rfl).2.2 _ rfl) _ rfl) _ rfl).2.2 _ rfl) _ rfl) _ rfl).2.2 _ rfl) _ rfl) _ rfl).1 (And.intro (show 20 < 24 by decide) (And.intro v0.2.2.1 (And.intro ((((((((((((((((((((((((v0.2.2.2.2 _ rfl) _ rfl) _ rfl).2.2 _ rfl) _ rfl) _ rfl).2.2 _ rfl) _ rfl) _ rfl).2.2 _ rfl) _ rfl) _ rfl).2.2 _ rfl) _ rfl) _ rfl).2.2 _ rfl) _ rfl) _ rfl).2.2 _ rfl) _ rfl) _ rfl).2.2 _ rfl) _ rfl) _ rfl).2.1 (And.intro (show n ≠ 0 from z4 hn) ((((((((((((((((((((((((((((v0.2.2.2.2 _ rfl) _ rfl) _ rfl).2.2 _ rfl) _ rfl) _ rfl).2.2 _ rfl) _ rfl) _ rfl).2.2 _ rfl) _ rfl) _ rfl).2.2 _ rfl) _ rfl) _ rfl).2.2 _ rfl) _ rfl) _ rfl).2.2 _ rfl) _ rfl) _ rfl).2.2 _ rfl) _ rfl) _ rfl).2.2 _ rfl) _ rfl) _ rfl)))))))))))))))))))))))))))))))))))))))))))))))))
theorem g5_init {g : Gl} {d : Nat} {Q : LV → Hp → Prop} {S S9 : Sx} {n x1 : Int} {h : Hp} (hS : S.1 ≤ S9.1) (X : LW g d m5_init S S9 Q 0 [some (LR 5 n), some (LI x1), none] [] S h) : Good g (d + 1) i5_init [LR 5 n, LI x1] S h S9 Q := Good.body (M := m5_init) k5_init hS (Nat.le_of_ble_eq_true rfl) (fun _ => X)
set_option maxRecDepth 20000 in
theorem v2_init {g : Gl} {d : Nat} {Q : Hp → Prop} {h : Hp} {Sb S S9 : Sx} (v0 : SH S.1 = (20, 12) ∧ S.1 + 1 ≤ S9.1 ∧ ∀ T1 : Sx, T1 = (S.1 + 1, sclr S.2 S.1) →
 ∀ h2 : Hp, h2 = hclr h S.1 →
 ∀ T3 : Sx, T3 = (T1.1, sup T1.2 2 5 0 S.1) →
 SH T3.1 = (20, 20) ∧ T3.1 + 1 ≤ S9.1 ∧ ∀ T4 : Sx, T4 = (T3.1 + 1, sclr T3.2 T3.1) →
 ∀ h5 : Hp, h5 = hclr h2 T3.1 →
 ∀ T6 : Sx, T6 = (T4.1, sup T4.2 2 5 1 T3.1) →
 SH T6.1 = (20, 20) ∧ T6.1 + 1 ≤ S9.1 ∧ ∀ T7 : Sx, T7 = (T6.1 + 1, sclr T6.2 T6.1) →
 ∀ h8 : Hp, h8 = hclr h5 T6.1 →
 ∀ T9 : Sx, T9 = (T7.1, sup T7.2 2 5 2 T6.1) →
 SH T9.1 = (22, 20) ∧ T9.1 + 1 ≤ S9.1 ∧ ∀ T10 : Sx, T10 = (T9.1 + 1, sclr T9.2 T9.1) →
 ∀ h11 : Hp, h11 = hclr h8 T9.1 →
 ∀ T12 : Sx, T12 = (T10.1, sup T10.2 2 5 3 T9.1) →
 4 ≤ (T12.2 2 5 0) ∧ 0 < lnn g (T12.2 2 5 0) ∧ ∀ h13 : Hp, h13 = hup h11 (T12.2 2 5 0) 0 (-1) →
 ∀ h14 : Hp, h14 = hup h13 5 4 1 →
 T12 = S9 ∧ Q h14) : LW g d m2_init Sb S9 (retV Q) 0 [some (LR 2 5)] [] S h :=
 LW.run 40 [] k2_init (And.intro (show (5 : Int) ≠ 0 by decide) (And.intro v0.1 (And.intro (show 20 < 24 by decide) (And.intro (show (0 : Int) ≤ 12 by decide) (And.intro v0.2.1 (And.intro (show (5 : Int) ≠ 0 by decide) (And.intro (((v0.2.2 _ rfl) _ rfl) _ rfl).1 (And.intro (show 20 < 24 by decide) (And.intro (show (0 : Int) ≤ 20 by decide) (And.intro (((v0.2.2 _ rfl) _ rfl) _ rfl).2.1 (And.intro (show (5 : Int) ≠ 0 by decide) (And.intro ((((((v0.2.2 _ rfl) _ rfl) _ rfl).2.2 _ rfl) _ rfl) _ rfl).1 (And.intro (show 20 < 24 by decide) (And.intro (show (0 : Int) ≤ 20 by decide) (And.intro ((((((v0.2.2 _ rfl) _ rfl) _ rfl).2.2 _ rfl) _ rfl) _ rfl).2.1 (And.intro (show (5 : Int) ≠ 0 by decide) (And.intro (((((((((v0.2.2 _ rfl) _ rfl) _ rfl).2.2 _ rfl) _ rfl) _ rfl).2.2 _ rfl) _ rfl) _ rfl).1 (And.intro (show 22 < 24 by decide) (And.intro (show (0 : Int) ≤ 20 by decide) (And.intro (((((((((v0.2.2 _ rfl) _ rfl) _ rfl).2.2 _ rfl) _ rfl) _ rfl).2.2 _ rfl) _ rfl) _ rfl).2.1 (And.intro (show (5 : Int) ≠ 0 by decide) (And.intro (show (5 : Int) ≠ 0 by decide) (And.intro ((((((((((((v0.2.2 _ rfl) _ rfl) _ rfl).2.2 _ rfl) _ rfl) _ rfl).2.2 _ rfl) _ rfl) _ rfl).2.2 _ rfl) _ rfl) _ rfl).1 (And.intro (show (0 : Int) ≤ 0 by decide) (And.intro ((((((((((((v0.2.2 _ rfl) _ rfl) _ rfl).2.2 _ rfl) _ rfl) _ rfl).2.2 _ rfl) _ rfl) _ rfl).2.2 _ rfl) _ rfl) _ rfl).2.1 (And.intro (show (5 : Int) ≠ 0 by decide) (((((((((((((((v0.2.2 _ rfl) _ rfl) _ rfl).2.2 _ rfl) _ rfl) _ rfl).2.2 _ rfl) _ rfl) _ rfl).2.2 _ rfl) _ rfl) _ rfl).2.2 _ rfl) _ rfl))))))))))))))))))))))))))))
theorem g2_init {g : Gl} {d : Nat} {Q : LV → Hp → Prop} {S S9 : Sx} {h : Hp} (hS : S.1 ≤ S9.1) (X : LW g d m2_init S S9 Q 0 [some (LR 2 5)] [] S h) : Good g (d + 1) i2_init [LR 2 5] S h S9 Q := Good.body (M := m2_init) k2_init hS (Nat.le_of_ble_eq_true rfl) (fun _ => X)
set_option maxRecDepth 20000 in
theorem v6_init {g : Gl} {d : Nat} {Q : Hp → Prop} {b : Int} {h : Hp} {Sb S S9 : Sx} (hb : 4 ≤ b) (v0 : (SH S.1).1 = 5 ∧ S.1 + 1 ≤ S9.1 ∧ ∀ T1 : Sx, T1 = (S.1 + 1, sclr S.2 S.1) →
 ∀ h2 : Hp, h2 = hclr h S.1 →
 S.1 ≠ 0 ∧ ∃ S5 : Sx, T1.1 ≤ S5.1 ∧ S5.1 ≤ S9.1 ∧ Good g d i5_init [LR 5 S.1, LI 24] T1 h2 S5 (retV (fun h3 =>
 ∀ T6 : Sx, T6 = (S5.1, sup S5.2 6 b 0 S.1) →
 SH T6.1 = (20, 24) ∧ T6.1 + 1 ≤ S9.1 ∧ ∀ T7 : Sx, T7 = (T6.1 + 1, sclr T6.2 T6.1) →
 ∀ h8 : Hp, h8 = hclr h3 T6.1 →
 ∀ T9 : Sx, T9 = (T7.1, sup T7.2 6 b 1 T6.1) →
 (SH T9.1).1 = 0 ∧ T9.1 + 1 ≤ S9.1 ∧ ∀ T10 : Sx, T10 = (T9.1 + 1, sclr T9.2 T9.1) →
 ∀ h11 : Hp, h11 = hclr h8 T9.1 →
 T9.1 ≠ 0 ∧ ∃ S14 : Sx, T10.1 ≤ S14.1 ∧ S14.1 ≤ S9.1 ∧ Good g d i0_init [LR 0 T9.1] T10 h11 S14 (retV (fun h12 =>
 ∀ T15 : Sx, T15 = (S14.1, sup S14.2 6 b 2 T9.1) →
 T15 = S9 ∧ Q h12))))) : LW g d m6_init Sb S9 (retV Q) 0 [some (LR 6 b)] [] S h :=
 LW.run 40 [] k6_init (And.intro (show b ≠ 0 from z4 hb) (And.intro v0.1 (And.intro v0.2.1 (And.intro ((v0.2.2 _ rfl) _ rfl).1 (Exists.elim ((v0.2.2 _ rfl) _ rfl).2 (fun S5 a19 => Exists.intro S5 (And.intro a19.1 (And.intro a19.2.1 (Good.mV a19.2.2 (fun h3 v4 => And.intro (show b ≠ 0 from z4 hb) (And.intro (v4 _ rfl).1 (And.intro (show 20 < 24 by decide) (And.intro (show (0 : Int) ≤ 24 by decide) (And.intro (v4 _ rfl).2.1 (And.intro (show b ≠ 0 from z4 hb) (And.intro ((((v4 _ rfl).2.2 _ rfl) _ rfl) _ rfl).1 (And.intro ((((v4 _ rfl).2.2 _ rfl) _ rfl) _ rfl).2.1 (And.intro ((((((v4 _ rfl).2.2 _ rfl) _ rfl) _ rfl).2.2 _ rfl) _ rfl).1 (Exists.elim ((((((v4 _ rfl).2.2 _ rfl) _ rfl) _ rfl).2.2 _ rfl) _ rfl).2 (fun S14 a16 => Exists.intro S14 (And.intro a16.1 (And.intro a16.2.1 (Good.mV a16.2.2 (fun h12 v13 => And.intro (show b ≠ 0 from z4 hb) ((v13 _ rfl))))))))))))))))))))))))))
theorem g6_init {g : Gl} {d : Nat} {Q : LV → Hp → Prop} {S S9 : Sx} {b : Int} {h : Hp} (hS : S.1 ≤ S9.1) (X : LW g d m6_init S S9 Q 0 [some (LR 6 b)] [] S h) : Good g (d + 1) i6_init [LR 6 b] S h S9 Q := Good.body (M := m6_init) k6_init hS (Nat.le_of_ble_eq_true rfl) (fun _ => X)
set_option maxRecDepth 20000 in
theorem v7_init {g : Gl} {d : Nat} {Q : Hp → Prop} {x1 x2 x3 : Int} {h : Hp} {Sb S S9 : Sx} (hx1 : 4 ≤ x1) (hx2 : 4 ≤ x2) (hx3 : 4 ≤ x3) (v0 : ∀ T1 : Sx, T1 = (S.1, sup S.2 7 597 0 x1) →
 ∀ T2 : Sx, T2 = (T1.1, sup T1.2 7 597 1 x2) →
 ∀ T3 : Sx, T3 = (T2.1, sup T2.2 7 597 2 x3) →
 ∀ h4 : Hp, h4 = hup h 597 8 (-1) →
 T3 = S9 ∧ Q h4) : LW g d m7_init Sb S9 (retV Q) 0 [some (LR 7 597), some (LR 2 x1), some (LR 8 x2), some (LR 5 x3)] [] S h :=
 LW.run 40 [] k7_init (And.intro (show (597 : Int) ≠ 0 by decide) (And.intro (show (597 : Int) ≠ 0 by decide) (And.intro (show (597 : Int) ≠ 0 by decide) (And.intro (show (597 : Int) ≠ 0 by decide) (And.intro (show (597 : Int) ≠ 0 by decide) (((((v0 _ rfl) _ rfl) _ rfl) _ rfl)))))))
theorem g7_init {g : Gl} {d : Nat} {Q : LV → Hp → Prop} {S S9 : Sx} {x1 x2 x3 : Int} {h : Hp} (hS : S.1 ≤ S9.1) (X : LW g d m7_init S S9 Q 0 [some (LR 7 597), some (LR 2 x1), some (LR 8 x2), some (LR 5 x3)] [] S h) : Good g (d + 1) i7_init [LR 7 597, LR 2 x1, LR 8 x2, LR 5 x3] S h S9 Q := Good.body (M := m7_init) k7_init hS (Nat.le_of_ble_eq_true rfl) (fun _ => X)
set_option maxRecDepth 20000 in
theorem v3_init {g : Gl} {d : Nat} {Q : Hp → Prop} {x1 x2 x3 : Int} {h : Hp} {Sb S S9 : Sx} (hx1 : 4 ≤ x1) (hx2 : 4 ≤ x2) (hx3 : 4 ≤ x3) (v0 : SH S.1 = (20, 10) ∧ S.1 + 1 ≤ S9.1 ∧ ∀ T1 : Sx, T1 = (S.1 + 1, sclr S.2 S.1) →
 ∀ h2 : Hp, h2 = hclr h S.1 →
 ∀ T3 : Sx, T3 = (T1.1, sup T1.2 3 598 2 S.1) →
 SH T3.1 = (20, 24) ∧ T3.1 + 1 ≤ S9.1 ∧ ∀ T4 : Sx, T4 = (T3.1 + 1, sclr T3.2 T3.1) →
 ∀ h5 : Hp, h5 = hclr h2 T3.1 →
 ∀ T6 : Sx, T6 = (T4.1, sup T4.2 3 598 3 T3.1) →
 SH T6.1 = (20, 24) ∧ T6.1 + 1 ≤ S9.1 ∧ ∀ T7 : Sx, T7 = (T6.1 + 1, sclr T6.2 T6.1) →
 ∀ h8 : Hp, h8 = hclr h5 T6.1 →
 ∀ T9 : Sx, T9 = (T7.1, sup T7.2 3 598 4 T6.1) →
 SH T9.1 = (20, 24) ∧ T9.1 + 1 ≤ S9.1 ∧ ∀ T10 : Sx, T10 = (T9.1 + 1, sclr T9.2 T9.1) →
 ∀ h11 : Hp, h11 = hclr h8 T9.1 →
 ∀ T12 : Sx, T12 = (T10.1, sup T10.2 3 598 5 T9.1) →
 ∀ T13 : Sx, T13 = (T12.1, sup T12.2 3 598 0 x1) →
 ∀ T14 : Sx, T14 = (T13.1, sup T13.2 3 598 1 x2) →
 ∀ h15 : Hp, h15 = hup h11 598 7 x2 →
 ∀ h16 : Hp, h16 = hup h15 598 8 x3 →
 T14 = S9 ∧ Q h16) : LW g d m3_init Sb S9 (retV Q) 0 [some (LR 3 598), some (LR 2 x1), some (LR 5 x2), some (LR 0 x3)] [] S h :=
 LW.run 40 [] k3_init (And.intro (show (598 : Int) ≠ 0 by decide) (And.intro v0.1 (And.intro (show 20 < 24 by decide) (And.intro (show (0 : Int) ≤ 10 by decide) (And.intro v0.2.1 (And.intro (show (598 : Int) ≠ 0 by decide) (And.intro (((v0.2.2 _ rfl) _ rfl) _ rfl).1 (And.intro (show 20 < 24 by decide) (And.intro (show (0 : Int) ≤ 24 by decide) (And.intro (((v0.2.2 _ rfl) _ rfl) _ rfl).2.1 (And.intro (show (598 : Int) ≠ 0 by decide) (And.intro ((((((v0.2.2 _ rfl) _ rfl) _ rfl).2.2 _ rfl) _ rfl) _ rfl).1 (And.intro (show 20 < 24 by decide) (And.intro (show (0 : Int) ≤ 24 by decide) (And.intro ((((((v0.2.2 _ rfl) _ rfl) _ rfl).2.2 _ rfl) _ rfl) _ rfl).2.1 (And.intro (show (598 : Int) ≠ 0 by decide) (And.intro (((((((((v0.2.2 _ rfl) _ rfl) _ rfl).2.2 _ rfl) _ rfl) _ rfl).2.2 _ rfl) _ rfl) _ rfl).1 (And.intro (show 20 < 24 by decide) (And.intro (show (0 : Int) ≤ 24 by decide) (And.intro (((((((((v0.2.2 _ rfl) _ rfl) _ rfl).2.2 _ rfl) _ rfl) _ rfl).2.2 _ rfl) _ rfl) _ rfl).2.1 (And.intro (show (598 : Int) ≠ 0 by decide) (And.intro (show (598 : Int) ≠ 0 by decide) (And.intro (show (598 : Int) ≠ 0 by decide) (And.intro (show (598 : Int) ≠ 0 by decide) (And.intro (show (598 : Int) ≠ 0 by decide) (((((((((((((((((v0.2.2 _ rfl) _ rfl) _ rfl).2.2 _ rfl) _ rfl) _ rfl).2.2 _ rfl) _ rfl) _ rfl).2.2 _ rfl) _ rfl) _ rfl) _ rfl) _ rfl) _ rfl) _ rfl)))))))))))))))))))))))))))
theorem g3_init {g : Gl} {d : Nat} {Q : LV → Hp → Prop} {S S9 : Sx} {x1 x2 x3 : Int} {h : Hp} (hS : S.1 ≤ S9.1) (X : LW g d m3_init S S9 Q 0 [some (LR 3 598), some (LR 2 x1), some (LR 5 x2), some (LR 0 x3)] [] S h) : Good g (d + 1) i3_init [LR 3 598, LR 2 x1, LR 5 x2, LR 0 x3] S h S9 Q := Good.body (M := m3_init) k3_init hS (Nat.le_of_ble_eq_true rfl) (fun _ => X)
set_option maxRecDepth 20000 in
theorem v1_init {g : Gl} {d : Nat} {Q : Hp → Prop} {x1 x2 x3 : Int} {h : Hp} {Sb S S9 : Sx} (hx1 : 4 ≤ x1) (hx2 : 4 ≤ x2) (hx3 : 4 ≤ x3) (v0 : SH S.1 = (20, 120) ∧ S.1 + 1 ≤ S9.1 ∧ ∀ T1 : Sx, T1 = (S.1 + 1, sclr S.2 S.1) →
 ∀ h2 : Hp, h2 = hclr h S.1 →
 ∀ T3 : Sx, T3 = (T1.1, sup T1.2 1 603 3 S.1) →
 ∀ T4 : Sx, T4 = (T3.1, sup T3.2 1 603 0 x1) →
 ∀ T5 : Sx, T5 = (T4.1, sup T4.2 1 603 1 x2) →
 ∀ T6 : Sx, T6 = (T5.1, sup T5.2 1 603 2 x3) →
 T6 = S9 ∧ Q h2) : LW g d m1_init Sb S9 (retV Q) 0 [some (LR 1 603), some (LR 3 x1), some (LR 5 x2), some (LR 0 x3)] [] S h :=
 LW.run 40 [] k1_init (And.intro (show (603 : Int) ≠ 0 by decide) (And.intro v0.1 (And.intro (show 20 < 24 by decide) (And.intro (show (0 : Int) ≤ 120 by decide) (And.intro v0.2.1 (And.intro (show (603 : Int) ≠ 0 by decide) (And.intro (show (603 : Int) ≠ 0 by decide) (And.intro (show (603 : Int) ≠ 0 by decide) (And.intro (show (603 : Int) ≠ 0 by decide) (((((((v0.2.2 _ rfl) _ rfl) _ rfl) _ rfl) _ rfl) _ rfl)))))))))))
theorem g1_init {g : Gl} {d : Nat} {Q : LV → Hp → Prop} {S S9 : Sx} {x1 x2 x3 : Int} {h : Hp} (hS : S.1 ≤ S9.1) (X : LW g d m1_init S S9 Q 0 [some (LR 1 603), some (LR 3 x1), some (LR 5 x2), some (LR 0 x3)] [] S h) : Good g (d + 1) i1_init [LR 1 603, LR 3 x1, LR 5 x2, LR 0 x3] S h S9 Q := Good.body (M := m1_init) k1_init hS (Nat.le_of_ble_eq_true rfl) (fun _ => X)
set_option maxRecDepth 20000 in
theorem v4_init {g : Gl} {d : Nat} {Q : Hp → Prop} {x1 x2 x3 : Int} {h : Hp} {Sb S S9 : Sx} (hx1 : 4 ≤ x1) (hx2 : 4 ≤ x2) (hx3 : 4 ≤ x3) (v0 : SH S.1 = (20, 24) ∧ S.1 + 1 ≤ S9.1 ∧ ∀ T1 : Sx, T1 = (S.1 + 1, sclr S.2 S.1) →
 ∀ h2 : Hp, h2 = hclr h S.1 →
 ∀ T3 : Sx, T3 = (T1.1, sup T1.2 4 605 3 S.1) →
 ∀ T4 : Sx, T4 = (T3.1, sup T3.2 4 605 0 x1) →
 ∀ T5 : Sx, T5 = (T4.1, sup T4.2 4 605 1 x2) →
 ∀ T6 : Sx, T6 = (T5.1, sup T5.2 4 605 2 x3) →
 ∀ h7 : Hp, h7 = hup h2 605 4 (-1) →
 T6 = S9 ∧ Q h7) : LW g d m4_init Sb S9 (retV Q) 0 [some (LR 4 605), some (LR 2 x1), some (LR 5 x2), some (LR 24 x3)] [] S h :=
 LW.run 40 [] k4_init (And.intro (show (605 : Int) ≠ 0 by decide) (And.intro v0.1 (And.intro (show 20 < 24 by decide) (And.intro (show (0 : Int) ≤ 24 by decide) (And.intro v0.2.1 (And.intro (show (605 : Int) ≠ 0 by decide) (And.intro (show (605 : Int) ≠ 0 by decide) (And.intro (show (605 : Int) ≠ 0 by decide) (And.intro (show (605 : Int) ≠ 0 by decide) (And.intro (show (605 : Int) ≠ 0 by decide) ((((((((v0.2.2 _ rfl) _ rfl) _ rfl) _ rfl) _ rfl) _ rfl) _ rfl))))))))))))
theorem g4_init {g : Gl} {d : Nat} {Q : LV → Hp → Prop} {S S9 : Sx} {x1 x2 x3 : Int} {h : Hp} (hS : S.1 ≤ S9.1) (X : LW g d m4_init S S9 Q 0 [some (LR 4 605), some (LR 2 x1), some (LR 5 x2), some (LR 24 x3)] [] S h) : Good g (d + 1) i4_init [LR 4 605, LR 2 x1, LR 5 x2, LR 24 x3] S h S9 Q := Good.body (M := m4_init) k4_init hS (Nat.le_of_ble_eq_true rfl) (fun _ => X)
set_option maxRecDepth 20000 in
theorem v9_init {g : Gl} {d : Nat} {Q : Hp → Prop} {h : Hp} {Sb S S9 : Sx} (v0 : (SH S.1).1 = 2 ∧ S.1 + 1 ≤ S9.1 ∧ ∀ T1 : Sx, T1 = (S.1 + 1, sclr S.2 S.1) →
 ∀ h2 : Hp, h2 = hclr h S.1 →
 S.1 ≠ 0 ∧ ∃ S5 : Sx, T1.1 ≤ S5.1 ∧ S5.1 ≤ S9.1 ∧ Good g d i2_init [LR 2 S.1] T1 h2 S5 (retV (fun h3 =>
 ∀ T6 : Sx, T6 = (S5.1, sup S5.2 9 4 0 S.1) →
 (SH T6.1).1 = 8 ∧ T6.1 + 1 ≤ S9.1 ∧ ∀ T7 : Sx, T7 = (T6.1 + 1, sclr T6.2 T6.1) →
 ∀ h8 : Hp, h8 = hclr h3 T6.1 →
 T6.1 ≠ 0 ∧ ∃ S11 : Sx, T7.1 ≤ S11.1 ∧ S11.1 ≤ S9.1 ∧ Good g d i8_init [LR 8 T6.1, LI 1000] T7 h8 S11 (retV (fun h9 =>
 ∀ T12 : Sx, T12 = (S11.1, sup S11.2 9 4 1 T6.1) →
 (SH T12.1).1 = 8 ∧ T12.1 + 1 ≤ S9.1 ∧ ∀ T13 : Sx, T13 = (T12.1 + 1, sclr T12.2 T12.1) →
 ∀ h14 : Hp, h14 = hclr h9 T12.1 →
 T12.1 ≠ 0 ∧ ∃ S17 : Sx, T13.1 ≤ S17.1 ∧ S17.1 ≤ S9.1 ∧ Good g d i8_init [LR 8 T12.1, LI 3000] T13 h14 S17 (retV (fun h15 =>
 ∀ T18 : Sx, T18 = (S17.1, sup S17.2 9 4 2 T12.1) →
 (SH T18.1).1 = 5 ∧ T18.1 + 1 ≤ S9.1 ∧ ∀ T19 : Sx, T19 = (T18.1 + 1, sclr T18.2 T18.1) →
 ∀ h20 : Hp, h20 = hclr h15 T18.1 →
 T18.1 ≠ 0 ∧ ∃ S23 : Sx, T19.1 ≤ S23.1 ∧ S23.1 ≤ S9.1 ∧ Good g d i5_init [LR 5 T18.1, LI 120] T19 h20 S23 (retV (fun h21 =>
 ∀ T24 : Sx, T24 = (S23.1, sup S23.2 9 4 3 T18.1) →
 (SH T24.1).1 = 5 ∧ T24.1 + 1 ≤ S9.1 ∧ ∀ T25 : Sx, T25 = (T24.1 + 1, sclr T24.2 T24.1) →
 ∀ h26 : Hp, h26 = hclr h21 T24.1 →
 T24.1 ≠ 0 ∧ ∃ S29 : Sx, T25.1 ≤ S29.1 ∧ S29.1 ≤ S9.1 ∧ Good g d i5_init [LR 5 T24.1, LI 120] T25 h26 S29 (retV (fun h27 =>
 ∀ T30 : Sx, T30 = (S29.1, sup S29.2 9 4 4 T24.1) →
 SH T30.1 = (24, 40) ∧ T30.1 + 1 ≤ S9.1 ∧ ∀ T31 : Sx, T31 = (T30.1 + 1, sclr T30.2 T30.1) →
 ∀ h32 : Hp, h32 = hclr h27 T30.1 →
 ∀ T33 : Sx, T33 = (T31.1, sup T31.2 9 4 5 T30.1) →
 LW g d m9_init Sb S9 (retV Q) 80 [some (LR 9 4), some (LI 0)] [] T33 h32))))))))))) : LW g d m9_init Sb S9 (retV Q) 0 [some (LR 9 4), none] [] S h :=
 LW.run 40 [(80, [true, true])] k9_init (And.intro (show (4 : Int) ≠ 0 by decide) (And.intro v0.1 (And.intro v0.2.1 (And.intro ((v0.2.2 _ rfl) _ rfl).1 (Exists.elim ((v0.2.2 _ rfl) _ rfl).2 (fun S5 a46 => Exists.intro S5 (And.intro a46.1 (And.intro a46.2.1 (Good.mV a46.2.2 (fun h3 v4 => And.intro (show (4 : Int) ≠ 0 by decide) (And.intro (v4 _ rfl).1 (And.intro (v4 _ rfl).2.1 (And.intro (((v4 _ rfl).2.2 _ rfl) _ rfl).1 (Exists.elim (((v4 _ rfl).2.2 _ rfl) _ rfl).2 (fun S11 a43 => Exists.intro S11 (And.intro a43.1 (And.intro a43.2.1 (Good.mV a43.2.2 (fun h9 v10 => And.intro (show (4 : Int) ≠ 0 by decide) (And.intro (v10 _ rfl).1 (And.intro (v10 _ rfl).2.1 (And.intro (((v10 _ rfl).2.2 _ rfl) _ rfl).1 (Exists.elim (((v10 _ rfl).2.2 _ rfl) _ rfl).2 (fun S17 a40 => Exists.intro S17 (And.intro a40.1 (And.intro a40.2.1 (Good.mV a40.2.2 (fun h15 v16 => And.intro (show (4 : Int) ≠ 0 by decide) (And.intro (v16 _ rfl).1 (And.intro (v16 _ rfl).2.1 (And.intro (((v16 _ rfl).2.2 _ rfl) _ rfl).1 (Exists.elim (((v16 _ rfl).2.2 _ rfl) _ rfl).2 (fun S23 a37 => Exists.intro S23 (And.intro a37.1 (And.intro a37.2.1 (Good.mV a37.2.2 (fun h21 v22 => And.intro (show (4 : Int) ≠ 0 by decide) (And.intro (v22 _ rfl).1 (And.intro (v22 _ rfl).2.1 (And.intro (((v22 _ rfl).2.2 _ rfl) _ rfl).1 (Exists.elim (((v22 _ rfl).2.2 _ rfl) _ rfl).2 (fun S29 a34 => Exists.intro S29 (And.intro a34.1 (And.intro a34.2.1 (Good.mV a34.2.2 (fun h27 v28 => And.intro (show (4 : Int) ≠ 0 by decide) (And.intro (show 6 = 6 by decide) (And.intro (v28 _ rfl).1 (And.intro (show (0 : Int) ≤ 40 by decide) (And.intro (v28 _ rfl).2.1 (And.intro (show (4 : Int) ≠ 0 by decide) (((((v28 _ rfl).2.2 _ rfl) _ rfl) _ rfl)))))))))))))))))))))))))))))))))))))))))))))))))))))
set_option maxRecDepth 20000 in
theorem v9_init_80 {g : Gl} {d : Nat} {Q : Hp → Prop} {y1 : Int} {h : Hp} {Sb S S9 : Sx} (v0 : ((40 ≤ y1 → (SH S.1).1 = 0 ∧ S.1 + 1 ≤ S9.1 ∧ ∀ T2 : Sx, T2 = (S.1 + 1, sclr S.2 S.1) →
 ∀ h3 : Hp, h3 = hclr h S.1 →
 S.1 ≠ 0 ∧ ∃ S6 : Sx, T2.1 ≤ S6.1 ∧ S6.1 ≤ S9.1 ∧ Good g d i0_init [LR 0 S.1] T2 h3 S6 (retV (fun h4 =>
 ∀ T7 : Sx, T7 = (S6.1, sup S6.2 9 4 10 S.1) →
 (SH T7.1).1 = 7 ∧ T7.1 + 1 ≤ S9.1 ∧ ∀ T8 : Sx, T8 = (T7.1 + 1, sclr T7.2 T7.1) →
 ∀ h9 : Hp, h9 = hclr h4 T7.1 →
 T7.1 ≠ 0 ∧ ∃ S12 : Sx, T8.1 ≤ S12.1 ∧ S12.1 ≤ S9.1 ∧ Good g d i7_init [LR 7 T7.1, LR 2 (T8.2 9 4 0), LR 8 (T8.2 9 4 1), LR 5 (T8.2 9 4 4)] T8 h9 S12 (retV (fun h10 =>
 ∀ T13 : Sx, T13 = (S12.1, sup S12.2 9 4 6 T7.1) →
 (SH T13.1).1 = 3 ∧ T13.1 + 1 ≤ S9.1 ∧ ∀ T14 : Sx, T14 = (T13.1 + 1, sclr T13.2 T13.1) →
 ∀ h15 : Hp, h15 = hclr h10 T13.1 →
 T13.1 ≠ 0 ∧ ∃ S18 : Sx, T14.1 ≤ S18.1 ∧ S18.1 ≤ S9.1 ∧ Good g d i3_init [LR 3 T13.1, LR 2 (T14.2 9 4 0), LR 5 (T14.2 9 4 3), LR 0 (T14.2 9 4 10)] T14 h15 S18 (retV (fun h16 =>
 ∀ T19 : Sx, T19 = (S18.1, sup S18.2 9 4 7 T13.1) →
 (SH T19.1).1 = 1 ∧ T19.1 + 1 ≤ S9.1 ∧ ∀ T20 : Sx, T20 = (T19.1 + 1, sclr T19.2 T19.1) →
 ∀ h21 : Hp, h21 = hclr h16 T19.1 →
 T19.1 ≠ 0 ∧ ∃ S24 : Sx, T20.1 ≤ S24.1 ∧ S24.1 ≤ S9.1 ∧ Good g d i1_init [LR 1 T19.1, LR 3 (T20.2 9 4 7), LR 5 (T20.2 9 4 3), LR 0 (T20.2 9 4 10)] T20 h21 S24 (retV (fun h22 =>
 ∀ T25 : Sx, T25 = (S24.1, sup S24.2 9 4 9 T19.1) →
 (SH T25.1).1 = 4 ∧ T25.1 + 1 ≤ S9.1 ∧ ∀ T26 : Sx, T26 = (T25.1 + 1, sclr T25.2 T25.1) →
 ∀ h27 : Hp, h27 = hclr h22 T25.1 →
 T25.1 ≠ 0 ∧ ∃ S30 : Sx, T26.1 ≤ S30.1 ∧ S30.1 ≤ S9.1 ∧ Good g d i4_init [LR 4 T25.1, LR 2 (T26.2 9 4 0), LR 5 (T26.2 9 4 3), LR 24 (T26.2 9 4 5)] T26 h27 S30 (retV (fun h28 =>
 ∀ T31 : Sx, T31 = (S30.1, sup S30.2 9 4 8 T25.1) →
 SH T31.1 = (20, 40) ∧ T31.1 + 1 ≤ S9.1 ∧ ∀ T32 : Sx, T32 = (T31.1 + 1, sclr T31.2 T31.1) →
 ∀ h33 : Hp, h33 = hclr h28 T31.1 →
 ∀ T34 : Sx, T34 = (T32.1, sup T32.2 9 4 11 T31.1) →
 T34 = S9 ∧ Q h33))))))))))) ∧
 (¬ 40 ≤ y1 → (SH S.1).1 = 6 ∧ S.1 + 1 ≤ S9.1 ∧ ∀ T50 : Sx, T50 = (S.1 + 1, sclr S.2 S.1) →
 ∀ h51 : Hp, h51 = hclr h S.1 →
 S.1 ≠ 0 ∧ ∃ S54 : Sx, T50.1 ≤ S54.1 ∧ S54.1 ≤ S9.1 ∧ Good g d i6_init [LR 6 S.1] T50 h51 S54 (retV (fun h52 =>
 (S.2 9 4 5) ≠ 0 ∧ 0 ≤ y1 ∧ y1 < lnn g (S.2 9 4 5) ∧ ∀ T55 : Sx, T55 = (S54.1, sup S54.2 24 (S.2 9 4 5) y1 S.1) →
 LW g d m9_init Sb S9 (retV Q) 80 [some (LR 9 4), some (LI (w32 (y1 + 1)))] [] T55 h52))))) : LW g d m9_init Sb S9 (retV Q) 80 [some (LR 9 4), some (LI y1)] [] S h :=
 LW.run 40 [(80, [true, true])] k9_init (And.intro (fun c1 => And.intro (v0.1 c1).1 (And.intro (v0.1 c1).2.1 (And.intro (((v0.1 c1).2.2 _ rfl) _ rfl).1 (Exists.elim (((v0.1 c1).2.2 _ rfl) _ rfl).2 (fun S6 a47 => Exists.intro S6 (And.intro a47.1 (And.intro a47.2.1 (Good.mV a47.2.2 (fun h4 v5 => And.intro (show (4 : Int) ≠ 0 by decide) (And.intro (v5 _ rfl).1 (And.intro (v5 _ rfl).2.1 (And.intro (show (4 : Int) ≠ 0 by decide) (And.intro (show (4 : Int) ≠ 0 by decide) (And.intro (show (4 : Int) ≠ 0 by decide) (And.intro (((v5 _ rfl).2.2 _ rfl) _ rfl).1 (Exists.elim (((v5 _ rfl).2.2 _ rfl) _ rfl).2 (fun S12 a44 => Exists.intro S12 (And.intro a44.1 (And.intro a44.2.1 (Good.mV a44.2.2 (fun h10 v11 => And.intro (show (4 : Int) ≠ 0 by decide) (And.intro (v11 _ rfl).1 (And.intro (v11 _ rfl).2.1 (And.intro (show (4 : Int) ≠ 0 by decide) (And.intro (show (4 : Int) ≠ 0 by decide) (And.intro (show (4 : Int) ≠ 0 by decide) (And.intro (((v11 _ rfl).2.2 _ rfl) _ rfl).1 (Exists.elim (((v11 _ rfl).2.2 _ rfl) _ rfl).2 (fun S18 a41 => Exists.intro S18 (And.intro a41.1 (And.intro a41.2.1 (Good.mV a41.2.2 (fun h16 v17 => And.intro (show (4 : Int) ≠ 0 by decide) (And.intro (v17 _ rfl).1 (And.intro (v17 _ rfl).2.1 (And.intro (show (4 : Int) ≠ 0 by decide) (And.intro (show (4 : Int) ≠ 0 by decide) (And.intro (show (4 : Int) ≠ 0 by decide) (And.intro (((v17 _ rfl).2.2 _ rfl) _ rfl).1 (Exists.elim (((v17 _ rfl).2.2 _ rfl) _ rfl).2 (fun S24 a38 => Exists.intro S24 (And.intro a38.1 (And.intro a38.2.1 (Good.mV a38.2.2 (fun h22 v23 => And.intro (show (4 : Int) ≠ 0 by decide) (And.intro (v23 _ rfl).1 (And.intro (v23 _ rfl).2.1 (And.intro (show (4 : Int) ≠ 0 by decide) (And.intro (show (4 : Int) ≠ 0 by decide) (And.intro (show (4 : Int) ≠ 0 by decide) (And.intro (((v23 _ rfl).2.2 _ rfl) _ rfl).1 (Exists.elim (((v23 _ rfl).2.2 _ rfl) _ rfl).2 (fun S30 a35 => Exists.intro S30 (And.intro a35.1 (And.intro a35.2.1 (Good.mV a35.2.2 (fun h28 v29 => And.intro (show (4 : Int) ≠ 0 by decide) (And.intro (v29 _ rfl).1 (And.intro (show 20 < 24 by decide) (And.intro (show (0 : Int) ≤ 40 by decide) (And.intro (v29 _ rfl).2.1 (And.intro (show (4 : Int) ≠ 0 by decide) (((((v29 _ rfl).2.2 _ rfl) _ rfl) _ rfl)))))))))))))))))))))))))))))))))))))))))))))))))))))))))))))))) (fun c1 => And.intro (show (4 : Int) ≠ 0 by decide) (And.intro (v0.2 c1).1 (And.intro (v0.2 c1).2.1 (And.intro (((v0.2 c1).2.2 _ rfl) _ rfl).1 (Exists.elim (((v0.2 c1).2.2 _ rfl) _ rfl).2 (fun S54 a56 => Exists.intro S54 (And.intro a56.1 (And.intro a56.2.1 (Good.mV a56.2.2 (fun h52 v53 => And.intro v53.1 (And.intro (((v0.2 c1).2.2 _ rfl) _ rfl).1 (And.intro v53.2.1 (And.intro v53.2.2.1 ((v53.2.2.2 _ rfl))))))))))))))))
theorem g9_init {g : Gl} {d : Nat} {Q : LV → Hp → Prop} {S S9 : Sx} {h : Hp} (hS : S.1 ≤ S9.1) (X : LW g d m9_init S S9 Q 0 [some (LR 9 4), none] [] S h) : Good g (d + 1) i9_init [LR 9 4] S h S9 Q := Good.body (M := m9_init) k9_init hS (Nat.le_of_ble_eq_true rfl) (fun _ => X)
