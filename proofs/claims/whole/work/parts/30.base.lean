/-! PURE LEMMAS for contracts -/
def b2i (p : Prop) [Decidable p] : Int := if p then 1 else 0
theorem b2i_t {p : Prop} [Decidable p] (h : p) : b2i p = 1 := by unfold b2i; rw [if_pos h]
theorem b2i_f {p : Prop} [Decidable p] (h : ¬ p) : b2i p = 0 := by unfold b2i; rw [if_neg h]
theorem b2i_0 {p : Prop} [Decidable p] : b2i p = 0 ↔ ¬ p := by unfold b2i; split <;> simp_all
theorem b2i_1 {p : Prop} [Decidable p] : b2i p = 1 ↔ p := by unfold b2i; split <;> simp_all
theorem b2i_01 {p : Prop} [Decidable p] : b2i p = 0 ∨ b2i p = 1 := by unfold b2i; split <;> simp
theorem b2i_c {p q : Prop} [Decidable p] [Decidable q] (h : p ↔ q) : b2i p = b2i q := by unfold b2i; simp only [h]
theorem lc_lt {x y : Int} : lcmpI x y < 0 ↔ x < y := by unfold lcmpI; split; omega; split <;> omega
theorem lc_ge {x y : Int} : 0 ≤ lcmpI x y ↔ y ≤ x := by unfold lcmpI; split; omega; split <;> omega
theorem lc_gt {x y : Int} : 0 < lcmpI x y ↔ y < x := by unfold lcmpI; split; omega; split <;> omega
theorem lc_le {x y : Int} : lcmpI x y ≤ 0 ↔ x ≤ y := by unfold lcmpI; split; omega; split <;> omega
theorem lc_eq {x y : Int} : lcmpI x y = 0 ↔ x = y := by unfold lcmpI; split; omega; split <;> omega
/-- a test of a boolean answer -/
theorem br0 {p A B : Prop} [Decidable p] (f : ¬ p → A) (t : p → B) : (b2i p = 0 → A) ∧ (¬ b2i p = 0 → B) := ⟨fun c => f (b2i_0.mp c), fun c => t (Classical.byContradiction (fun z => c (b2i_0.mpr z)))⟩
theorem br1 {p A B : Prop} [Decidable p] (t : p → A) (f : ¬ p → B) : (¬ b2i p = 0 → A) ∧ (b2i p = 0 → B) := ⟨(br0 f t).2, (br0 f t).1⟩
section
variable {g : Gl} {d : Nat} {h : Hp}
theorem e_hasKind {x : Int} {Q : Int → Hp → Prop} (q : Q (b2i (0 ≤ x ∧ x < h 5 4)) h) : Good g (d + 1) i2_hasKind [LR 2 5, LL x] S0 h S0 (retI Q) :=
  g2_hasKind (fun _ => v2_hasKind (by
    simp only [lc_lt, lc_ge]
    refine ⟨fun c => ?_, fun c => ⟨fun c2 => ?_, fun c2 => ?_⟩⟩
    · rwa [b2i_f (by omega)] at q
    · rwa [b2i_f (by omega)] at q
    · rwa [b2i_t (by omega)] at q))
theorem e_hasHead {x : Int} {Q : Int → Hp → Prop} (q : Q (b2i (0 ≤ x ∧ x < h 5 5)) h) : Good g (d + 1) i2_hasHead [LR 2 5, LI x] S0 h S0 (retI Q) :=
  g2_hasHead (fun _ => v2_hasHead (by
    unfold b2i at q
    grind))
end
