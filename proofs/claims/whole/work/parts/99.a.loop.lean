/-! THE LAW'S LOOP: a turn is a call of the class and one of the model -/
def ZK (K : Hp → Prop) (r r2 : Int) (h2 : Hp) : Prop := (r = r2 → K h2) ∧ (¬ r = r2 → False)
def ZL (K : Hp → Prop) (r r2 : Int) (h2 : Hp) : Prop := (lcmpI r r2 = 0 → K h2) ∧ (¬ lcmpI r r2 = 0 → False)
theorem ZK_i {K : Hp → Prop} {r : Int} {h2 : Hp} (k : K h2) : ZK K r r h2 := ⟨fun _ => k, fun z => absurd rfl z⟩
theorem ZL_i {K : Hp → Prop} {r : Int} {h2 : Hp} (k : K h2) : ZL K r r h2 := ⟨fun _ => k, fun z => absurd (lc_eq.mpr rfl) z⟩
section LAW
variable {g : Gl} {p : Program} {e : Env} {s : State} {m : MethodId} {below : List Frame} {meth : Method} {c : Code} {b : Nat}
theorem a_164 {y : Int} {h : Hp} (C : LC g p s m meth c b) (G : GX h) (y0 : 0 ≤ y) (y1 : y + 5 < lnn g 1) (y2 : y ≤ 4000) (K : ∀ h2 : Hp, GX h2 → LZ g p e s m below meth c b 988 [some (LR 20 1), some (LR 9 4), some (LR 10 608), some (LI y)] [] S0 h2) : LZ g p e s m below meth c b 164 [some (LR 20 1), some (LR 9 4), some (LR 10 608), some (LI y)] [] S0 h := by
  obtain ⟨E, T, P, A, B, n, O, mm, pl, H, M⟩ := G
  refine v13_law_164 C ?_
  rw [w32_id (x := y + 1) (by omega) (by omega)]
  exact ⟨by omega, by omega, (l_kind (Z := ZK (fun h2 => LZ g p e s m below meth c b 988 [some (LR 20 1), some (LR 9 4), some (LR 10 608), some (LI y)] [] S0 h2)) H M (fun r h2 G2 => ZK_i (K h2 G2))).mI (fun r h1 X => by rw [X.1]; exact X.2)⟩
theorem a_187 {y : Int} {h : Hp} (C : LC g p s m meth c b) (G : GX h) (y0 : 0 ≤ y) (y1 : y + 5 < lnn g 1) (y2 : y ≤ 4000) (K : ∀ h2 : Hp, GX h2 → LZ g p e s m below meth c b 988 [some (LR 20 1), some (LR 9 4), some (LR 10 608), some (LI y)] [] S0 h2) : LZ g p e s m below meth c b 187 [some (LR 20 1), some (LR 9 4), some (LR 10 608), some (LI y)] [] S0 h := by
  obtain ⟨E, T, P, A, B, n, O, mm, pl, H, M⟩ := G
  refine v13_law_187 C ?_
  rw [w32_id (x := y + 1) (by omega) (by omega), w32_id (x := y + 2) (by omega) (by omega)]
  exact ⟨by omega, by omega, by omega, by omega, (l_isUnder (Z := ZK (fun h2 => LZ g p e s m below meth c b 988 [some (LR 20 1), some (LR 9 4), some (LR 10 608), some (LI y)] [] S0 h2)) H M (fun r h2 G2 => ZK_i (K h2 G2))).mI (fun r h1 X => by rw [X.1]; exact X.2)⟩
theorem a_220 {y : Int} {h : Hp} (C : LC g p s m meth c b) (G : GX h) (y0 : 0 ≤ y) (y1 : y + 5 < lnn g 1) (y2 : y ≤ 4000) (K : ∀ h2 : Hp, GX h2 → LZ g p e s m below meth c b 988 [some (LR 20 1), some (LR 9 4), some (LR 10 608), some (LI y)] [] S0 h2) : LZ g p e s m below meth c b 220 [some (LR 20 1), some (LR 9 4), some (LR 10 608), some (LI y)] [] S0 h := by
  obtain ⟨E, T, P, A, B, n, O, mm, pl, H, M⟩ := G
  refine v13_law_220 C ?_
  rw [w32_id (x := y + 1) (by omega) (by omega), w32_id (x := y + 2) (by omega) (by omega), w32_id (x := y + 3) (by omega) (by omega)]
  exact ⟨by omega, by omega, by omega, by omega, by omega, by omega, fun z => (l_head (Z := ZK (fun h2 => LZ g p e s m below meth c b 988 [some (LR 20 1), some (LR 9 4), some (LR 10 608), some (LI y)] [] S0 h2)) H M (Or.inl rfl) (fun r h2 G2 => ZK_i (K h2 G2))).mI (fun r h1 X => by rw [X.1]; exact ⟨fun _ => X.2, fun w => absurd z w⟩), fun z => (l_head (Z := ZK (fun h2 => LZ g p e s m below meth c b 988 [some (LR 20 1), some (LR 9 4), some (LR 10 608), some (LI y)] [] S0 h2)) H M (Or.inr rfl) (fun r h2 G2 => ZK_i (K h2 G2))).mI (fun r h1 X => by rw [X.1]; exact ⟨fun w => absurd w z, fun _ => X.2⟩)⟩
theorem a_279 {y : Int} {h : Hp} (C : LC g p s m meth c b) (G : GX h) (y0 : 0 ≤ y) (y1 : y + 5 < lnn g 1) (y2 : y ≤ 4000) (K : ∀ h2 : Hp, GX h2 → LZ g p e s m below meth c b 988 [some (LR 20 1), some (LR 9 4), some (LR 10 608), some (LI y)] [] S0 h2) : LZ g p e s m below meth c b 279 [some (LR 20 1), some (LR 9 4), some (LR 10 608), some (LI y)] [] S0 h := by
  obtain ⟨E, T, P, A, B, n, O, mm, pl, H, M⟩ := G
  refine v13_law_279 C ?_
  rw [w32_id (x := y + 1) (by omega) (by omega), w32_id (x := y + 2) (by omega) (by omega), w32_id (x := y + 3) (by omega) (by omega), w32_id (x := y + 4) (by omega) (by omega), w32_id (x := y + 5) (by omega) (by omega)]
  exact ⟨by omega, by omega, by omega, by omega, by omega, by omega, by omega, by omega, by omega, by omega, (l_feed (Z := ZK (fun h2 => LZ g p e s m below meth c b 988 [some (LR 20 1), some (LR 9 4), some (LR 10 608), some (LI y)] [] S0 h2)) H M (fun r h2 G2 => ZK_i (K h2 G2))).mI (fun r h1 X => by rw [X.1]; exact X.2)⟩
theorem a_342 {y : Int} {h : Hp} (C : LC g p s m meth c b) (G : GX h) (y0 : 0 ≤ y) (y1 : y + 5 < lnn g 1) (y2 : y ≤ 4000) (K : ∀ h2 : Hp, GX h2 → LZ g p e s m below meth c b 988 [some (LR 20 1), some (LR 9 4), some (LR 10 608), some (LI y)] [] S0 h2) : LZ g p e s m below meth c b 342 [some (LR 20 1), some (LR 9 4), some (LR 10 608), some (LI y)] [] S0 h := by
  obtain ⟨E, T, P, A, B, n, O, mm, pl, H, M⟩ := G
  refine v13_law_342 C ?_
  rw [w32_id (x := y + 1) (by omega) (by omega)]
  exact ⟨by omega, by omega, (l_cut (Z := ZK (fun h2 => LZ g p e s m below meth c b 988 [some (LR 20 1), some (LR 9 4), some (LR 10 608), some (LI y)] [] S0 h2)) H M (fun r h2 G2 => ZK_i (K h2 G2))).mI (fun r h1 X => by rw [X.1]; exact X.2)⟩
theorem a_365 {y : Int} {h : Hp} (C : LC g p s m meth c b) (G : GX h) (y0 : 0 ≤ y) (y1 : y + 5 < lnn g 1) (y2 : y ≤ 4000) (K : ∀ h2 : Hp, GX h2 → LZ g p e s m below meth c b 988 [some (LR 20 1), some (LR 9 4), some (LR 10 608), some (LI y)] [] S0 h2) : LZ g p e s m below meth c b 365 [some (LR 20 1), some (LR 9 4), some (LR 10 608), some (LI y)] [] S0 h := by
  obtain ⟨E, T, P, A, B, n, O, mm, pl, H, M⟩ := G
  refine v13_law_365 C ?_
  rw [w32_id (x := y + 1) (by omega) (by omega)]
  exact ⟨by omega, by omega, (l_pattern (Z := ZK (fun h2 => LZ g p e s m below meth c b 988 [some (LR 20 1), some (LR 9 4), some (LR 10 608), some (LI y)] [] S0 h2)) H M (fun r h2 G2 => ZK_i (K h2 G2))).mI (fun r h1 X => by rw [X.1]; exact X.2)⟩
theorem a_388 {y : Int} {h : Hp} (C : LC g p s m meth c b) (G : GX h) (y0 : 0 ≤ y) (y1 : y + 5 < lnn g 1) (y2 : y ≤ 4000) (K : ∀ h2 : Hp, GX h2 → LZ g p e s m below meth c b 988 [some (LR 20 1), some (LR 9 4), some (LR 10 608), some (LI y)] [] S0 h2) : LZ g p e s m below meth c b 388 [some (LR 20 1), some (LR 9 4), some (LR 10 608), some (LI y)] [] S0 h := by
  obtain ⟨E, T, P, A, B, n, O, mm, pl, H, M⟩ := G
  refine v13_law_388 C ?_
  rw [w32_id (x := y + 1) (by omega) (by omega)]
  exact ⟨by omega, by omega, (l_drop (Z := ZK (fun h2 => LZ g p e s m below meth c b 988 [some (LR 20 1), some (LR 9 4), some (LR 10 608), some (LI y)] [] S0 h2)) H M (fun r h2 G2 => ZK_i (K h2 G2))).mI (fun r h1 X => by rw [X.1]; exact X.2)⟩
theorem a_411 {y : Int} {h : Hp} (C : LC g p s m meth c b) (G : GX h) (y0 : 0 ≤ y) (y1 : y + 5 < lnn g 1) (y2 : y ≤ 4000) (K : ∀ h2 : Hp, GX h2 → LZ g p e s m below meth c b 988 [some (LR 20 1), some (LR 9 4), some (LR 10 608), some (LI y)] [] S0 h2) : LZ g p e s m below meth c b 411 [some (LR 20 1), some (LR 9 4), some (LR 10 608), some (LI y)] [] S0 h := by
  obtain ⟨E, T, P, A, B, n, O, mm, pl, H, M⟩ := G
  refine v13_law_411 C ?_
  exact (l_tree (Z := ZK (fun h2 => LZ g p e s m below meth c b 988 [some (LR 20 1), some (LR 9 4), some (LR 10 608), some (LI y)] [] S0 h2)) H M (fun r h2 G2 => ZK_i (K h2 G2))).mI (fun r h1 X => X.2)
theorem a_424 {y : Int} {h : Hp} (C : LC g p s m meth c b) (G : GX h) (y0 : 0 ≤ y) (y1 : y + 5 < lnn g 1) (y2 : y ≤ 4000) (K : ∀ h2 : Hp, GX h2 → LZ g p e s m below meth c b 988 [some (LR 20 1), some (LR 9 4), some (LR 10 608), some (LI y)] [] S0 h2) : LZ g p e s m below meth c b 424 [some (LR 20 1), some (LR 9 4), some (LR 10 608), some (LI y)] [] S0 h := by
  obtain ⟨E, T, P, A, B, n, O, mm, pl, H, M⟩ := G
  refine v13_law_424 C ?_
  rw [w32_id (x := y + 1) (by omega) (by omega)]
  exact ⟨by omega, by omega, (l_change (Z := ZK (fun h2 => LZ g p e s m below meth c b 988 [some (LR 20 1), some (LR 9 4), some (LR 10 608), some (LI y)] [] S0 h2)) H M (fun r h2 G2 => ZK_i (K h2 G2))).mI (fun r h1 X => by rw [X.1]; exact X.2)⟩
theorem a_447 {y : Int} {h : Hp} (C : LC g p s m meth c b) (G : GX h) (y0 : 0 ≤ y) (y1 : y + 5 < lnn g 1) (y2 : y ≤ 4000) (K : ∀ h2 : Hp, GX h2 → LZ g p e s m below meth c b 988 [some (LR 20 1), some (LR 9 4), some (LR 10 608), some (LI y)] [] S0 h2) : LZ g p e s m below meth c b 447 [some (LR 20 1), some (LR 9 4), some (LR 10 608), some (LI y)] [] S0 h := by
  obtain ⟨E, T, P, A, B, n, O, mm, pl, H, M⟩ := G
  refine v13_law_447 C ?_
  exact (l_place (Z := ZK (fun h2 => LZ g p e s m below meth c b 988 [some (LR 20 1), some (LR 9 4), some (LR 10 608), some (LI y)] [] S0 h2)) H M (fun r h2 G2 => ZK_i (K h2 G2))).mI (fun r h1 X => X.2)
theorem a_460 {y : Int} {h : Hp} (C : LC g p s m meth c b) (G : GX h) (y0 : 0 ≤ y) (y1 : y + 5 < lnn g 1) (y2 : y ≤ 4000) (K : ∀ h2 : Hp, GX h2 → LZ g p e s m below meth c b 988 [some (LR 20 1), some (LR 9 4), some (LR 10 608), some (LI y)] [] S0 h2) : LZ g p e s m below meth c b 460 [some (LR 20 1), some (LR 9 4), some (LR 10 608), some (LI y)] [] S0 h := by
  obtain ⟨E, T, P, A, B, n, O, mm, pl, H, M⟩ := G
  refine v13_law_460 C ?_
  rw [w32_id (x := y + 1) (by omega) (by omega)]
  exact ⟨by omega, by omega, (l_count (Z := ZK (fun h2 => LZ g p e s m below meth c b 988 [some (LR 20 1), some (LR 9 4), some (LR 10 608), some (LI y)] [] S0 h2)) H M (fun r h2 G2 => ZK_i (K h2 G2))).mI (fun r h1 X => by rw [X.1]; exact X.2)⟩
theorem a_483 {y : Int} {h : Hp} (C : LC g p s m meth c b) (G : GX h) (y0 : 0 ≤ y) (y1 : y + 5 < lnn g 1) (y2 : y ≤ 4000) (K : ∀ h2 : Hp, GX h2 → LZ g p e s m below meth c b 988 [some (LR 20 1), some (LR 9 4), some (LR 10 608), some (LI y)] [] S0 h2) : LZ g p e s m below meth c b 483 [some (LR 20 1), some (LR 9 4), some (LR 10 608), some (LI y)] [] S0 h := by
  obtain ⟨E, T, P, A, B, n, O, mm, pl, H, M⟩ := G
  refine v13_law_483 C ?_
  rw [w32_id (x := y + 1) (by omega) (by omega), w32_id (x := y + 2) (by omega) (by omega)]
  exact ⟨by omega, by omega, by omega, by omega, (l_told (Z := ZK (fun h2 => LZ g p e s m below meth c b 988 [some (LR 20 1), some (LR 9 4), some (LR 10 608), some (LI y)] [] S0 h2)) H M (fun r h2 G2 => ZK_i (K h2 G2))).mI (fun r h1 X => by rw [X.1]; exact X.2)⟩
theorem a_516 {y : Int} {h : Hp} (C : LC g p s m meth c b) (G : GX h) (y0 : 0 ≤ y) (y1 : y + 5 < lnn g 1) (y2 : y ≤ 4000) (K : ∀ h2 : Hp, GX h2 → LZ g p e s m below meth c b 988 [some (LR 20 1), some (LR 9 4), some (LR 10 608), some (LI y)] [] S0 h2) : LZ g p e s m below meth c b 516 [some (LR 20 1), some (LR 9 4), some (LR 10 608), some (LI y)] [] S0 h := by
  obtain ⟨E, T, P, A, B, n, O, mm, pl, H, M⟩ := G
  refine v13_law_516 C ?_
  rw [w32_id (x := y + 1) (by omega) (by omega), w32_id (x := y + 2) (by omega) (by omega)]
  exact ⟨by omega, by omega, by omega, by omega, (l_node (Z := ZL (fun h2 => LZ g p e s m below meth c b 988 [some (LR 20 1), some (LR 9 4), some (LR 10 608), some (LI y)] [] S0 h2)) H M (fun r h2 G2 => ZL_i (K h2 G2))).mL (fun r h1 X => by rw [X.1]; exact X.2)⟩
theorem a_550 {y : Int} {h : Hp} (C : LC g p s m meth c b) (G : GX h) (y0 : 0 ≤ y) (y1 : y + 5 < lnn g 1) (y2 : y ≤ 4000) (K : ∀ h2 : Hp, GX h2 → LZ g p e s m below meth c b 988 [some (LR 20 1), some (LR 9 4), some (LR 10 608), some (LI y)] [] S0 h2) : LZ g p e s m below meth c b 550 [some (LR 20 1), some (LR 9 4), some (LR 10 608), some (LI y)] [] S0 h := by
  obtain ⟨E, T, P, A, B, n, O, mm, pl, H, M⟩ := G
  refine v13_law_550 C ?_
  rw [w32_id (x := y + 1) (by omega) (by omega), w32_id (x := y + 2) (by omega) (by omega)]
  exact ⟨by omega, by omega, by omega, by omega, (l_alike (Z := ZK (fun h2 => LZ g p e s m below meth c b 988 [some (LR 20 1), some (LR 9 4), some (LR 10 608), some (LI y)] [] S0 h2)) H M (fun r h2 G2 => ZK_i (K h2 G2))).mI (fun r h1 X => by rw [X.1]; exact X.2)⟩
theorem a_583 {y : Int} {h : Hp} (C : LC g p s m meth c b) (G : GX h) (y0 : 0 ≤ y) (y1 : y + 5 < lnn g 1) (y2 : y ≤ 4000) (K : ∀ h2 : Hp, GX h2 → LZ g p e s m below meth c b 988 [some (LR 20 1), some (LR 9 4), some (LR 10 608), some (LI y)] [] S0 h2) : LZ g p e s m below meth c b 583 [some (LR 20 1), some (LR 9 4), some (LR 10 608), some (LI y)] [] S0 h := by
  obtain ⟨E, T, P, A, B, n, O, mm, pl, H, M⟩ := G
  refine v13_law_583 C ?_
  exact (l_ask (Z := ZK (fun h2 => LZ g p e s m below meth c b 988 [some (LR 20 1), some (LR 9 4), some (LR 10 608), some (LI y)] [] S0 h2)) H M (fun r h2 G2 => ZK_i (K h2 G2))).mI (fun r h1 X => X.2)
theorem a_596 {y : Int} {h : Hp} (C : LC g p s m meth c b) (G : GX h) (y0 : 0 ≤ y) (y1 : y + 5 < lnn g 1) (y2 : y ≤ 4000) (K : ∀ h2 : Hp, GX h2 → LZ g p e s m below meth c b 988 [some (LR 20 1), some (LR 9 4), some (LR 10 608), some (LI y)] [] S0 h2) : LZ g p e s m below meth c b 596 [some (LR 20 1), some (LR 9 4), some (LR 10 608), some (LI y)] [] S0 h := by
  obtain ⟨E, T, P, A, B, n, O, mm, pl, H, M⟩ := G
  refine v13_law_596 C ?_
  rw [w32_id (x := y + 1) (by omega) (by omega)]
  exact ⟨by omega, by omega, (l_fit (Z := ZK (fun h2 => LZ g p e s m below meth c b 988 [some (LR 20 1), some (LR 9 4), some (LR 10 608), some (LI y)] [] S0 h2)) H M (fun r h2 G2 => ZK_i (K h2 G2))).mI (fun r h1 X => by rw [X.1]; exact X.2)⟩
theorem a_619 {y : Int} {h : Hp} (C : LC g p s m meth c b) (G : GX h) (y0 : 0 ≤ y) (y1 : y + 5 < lnn g 1) (y2 : y ≤ 4000) (K : ∀ h2 : Hp, GX h2 → LZ g p e s m below meth c b 988 [some (LR 20 1), some (LR 9 4), some (LR 10 608), some (LI y)] [] S0 h2) : LZ g p e s m below meth c b 619 [some (LR 20 1), some (LR 9 4), some (LR 10 608), some (LI y)] [] S0 h := by
  obtain ⟨E, T, P, A, B, n, O, mm, pl, H, M⟩ := G
  refine v13_law_619 C ?_
  rw [w32_id (x := y + 1) (by omega) (by omega)]
  exact ⟨by omega, by omega, (l_fillings (Z := ZK (fun h2 => LZ g p e s m below meth c b 988 [some (LR 20 1), some (LR 9 4), some (LR 10 608), some (LI y)] [] S0 h2)) H M (fun r h2 G2 => ZK_i (K h2 G2))).mI (fun r h1 X => by rw [X.1]; exact X.2)⟩
theorem a_642 {y : Int} {h : Hp} (C : LC g p s m meth c b) (G : GX h) (y0 : 0 ≤ y) (y1 : y + 5 < lnn g 1) (y2 : y ≤ 4000) (K : ∀ h2 : Hp, GX h2 → LZ g p e s m below meth c b 988 [some (LR 20 1), some (LR 9 4), some (LR 10 608), some (LI y)] [] S0 h2) : LZ g p e s m below meth c b 642 [some (LR 20 1), some (LR 9 4), some (LR 10 608), some (LI y)] [] S0 h := by
  obtain ⟨E, T, P, A, B, n, O, mm, pl, H, M⟩ := G
  refine v13_law_642 C ?_
  rw [w32_id (x := y + 1) (by omega) (by omega), w32_id (x := y + 2) (by omega) (by omega), w32_id (x := y + 3) (by omega) (by omega)]
  exact ⟨by omega, by omega, by omega, by omega, by omega, by omega, (l_filling (Z := ZK (fun h2 => LZ g p e s m below meth c b 988 [some (LR 20 1), some (LR 9 4), some (LR 10 608), some (LI y)] [] S0 h2)) H M (fun r h2 G2 => ZK_i (K h2 G2))).mI (fun r h1 X => by rw [X.1]; exact X.2)⟩
theorem a_685 {y : Int} {h : Hp} (C : LC g p s m meth c b) (G : GX h) (y0 : 0 ≤ y) (y1 : y + 5 < lnn g 1) (y2 : y ≤ 4000) (K : ∀ h2 : Hp, GX h2 → LZ g p e s m below meth c b 988 [some (LR 20 1), some (LR 9 4), some (LR 10 608), some (LI y)] [] S0 h2) : LZ g p e s m below meth c b 685 [some (LR 20 1), some (LR 9 4), some (LR 10 608), some (LI y)] [] S0 h := by
  obtain ⟨E, T, P, A, B, n, O, mm, pl, H, M⟩ := G
  refine v13_law_685 C ?_
  rw [w32_id (x := y + 1) (by omega) (by omega), w32_id (x := y + 2) (by omega) (by omega)]
  exact ⟨by omega, by omega, by omega, by omega, (l_asked (Z := ZK (fun h2 => LZ g p e s m below meth c b 988 [some (LR 20 1), some (LR 9 4), some (LR 10 608), some (LI y)] [] S0 h2)) H M (fun r h2 G2 => ZK_i (K h2 G2))).mI (fun r h1 X => by rw [X.1]; exact X.2)⟩
theorem a_718 {y : Int} {h : Hp} (C : LC g p s m meth c b) (G : GX h) (y0 : 0 ≤ y) (y1 : y + 5 < lnn g 1) (y2 : y ≤ 4000) (K : ∀ h2 : Hp, GX h2 → LZ g p e s m below meth c b 988 [some (LR 20 1), some (LR 9 4), some (LR 10 608), some (LI y)] [] S0 h2) : LZ g p e s m below meth c b 718 [some (LR 20 1), some (LR 9 4), some (LR 10 608), some (LI y)] [] S0 h := by
  obtain ⟨E, T, P, A, B, n, O, mm, pl, H, M⟩ := G
  refine v13_law_718 C ?_
  rw [w32_id (x := y + 1) (by omega) (by omega), w32_id (x := y + 2) (by omega) (by omega)]
  exact ⟨by omega, by omega, by omega, by omega, (l_at (Z := ZK (fun h2 => LZ g p e s m below meth c b 988 [some (LR 20 1), some (LR 9 4), some (LR 10 608), some (LI y)] [] S0 h2)) H M (fun r h2 G2 => ZK_i (K h2 G2))).mI (fun r h1 X => by rw [X.1]; exact X.2)⟩
theorem a_751 {y : Int} {h : Hp} (C : LC g p s m meth c b) (G : GX h) (y0 : 0 ≤ y) (y1 : y + 5 < lnn g 1) (y2 : y ≤ 4000) (K : ∀ h2 : Hp, GX h2 → LZ g p e s m below meth c b 988 [some (LR 20 1), some (LR 9 4), some (LR 10 608), some (LI y)] [] S0 h2) : LZ g p e s m below meth c b 751 [some (LR 20 1), some (LR 9 4), some (LR 10 608), some (LI y)] [] S0 h := by
  obtain ⟨E, T, P, A, B, n, O, mm, pl, H, M⟩ := G
  refine v13_law_751 C ?_
  rw [w32_id (x := y + 1) (by omega) (by omega), w32_id (x := y + 2) (by omega) (by omega)]
  exact ⟨by omega, by omega, by omega, by omega, (l_found (Z := ZK (fun h2 => LZ g p e s m below meth c b 988 [some (LR 20 1), some (LR 9 4), some (LR 10 608), some (LI y)] [] S0 h2)) H M (fun r h2 G2 => ZK_i (K h2 G2))).mI (fun r h1 X => by rw [X.1]; exact X.2)⟩
theorem a_784 {y : Int} {h : Hp} (C : LC g p s m meth c b) (G : GX h) (y0 : 0 ≤ y) (y1 : y + 5 < lnn g 1) (y2 : y ≤ 4000) (K : ∀ h2 : Hp, GX h2 → LZ g p e s m below meth c b 988 [some (LR 20 1), some (LR 9 4), some (LR 10 608), some (LI y)] [] S0 h2) : LZ g p e s m below meth c b 784 [some (LR 20 1), some (LR 9 4), some (LR 10 608), some (LI y)] [] S0 h := by
  obtain ⟨E, T, P, A, B, n, O, mm, pl, H, M⟩ := G
  refine v13_law_784 C ?_
  rw [w32_id (x := y + 1) (by omega) (by omega)]
  exact ⟨by omega, by omega, (l_looks (Z := ZK (fun h2 => LZ g p e s m below meth c b 988 [some (LR 20 1), some (LR 9 4), some (LR 10 608), some (LI y)] [] S0 h2)) H M (fun r h2 G2 => ZK_i (K h2 G2))).mI (fun r h1 X => by rw [X.1]; exact X.2)⟩
theorem a_807 {y : Int} {h : Hp} (C : LC g p s m meth c b) (G : GX h) (y0 : 0 ≤ y) (y1 : y + 5 < lnn g 1) (y2 : y ≤ 4000) (K : ∀ h2 : Hp, GX h2 → LZ g p e s m below meth c b 988 [some (LR 20 1), some (LR 9 4), some (LR 10 608), some (LI y)] [] S0 h2) : LZ g p e s m below meth c b 807 [some (LR 20 1), some (LR 9 4), some (LR 10 608), some (LI y)] [] S0 h := by
  obtain ⟨E, T, P, A, B, n, O, mm, pl, H, M⟩ := G
  refine v13_law_807 C ?_
  rw [w32_id (x := y + 1) (by omega) (by omega), w32_id (x := y + 2) (by omega) (by omega)]
  exact ⟨by omega, by omega, by omega, by omega, (l_parts (Z := ZK (fun h2 => LZ g p e s m below meth c b 988 [some (LR 20 1), some (LR 9 4), some (LR 10 608), some (LI y)] [] S0 h2)) H M (fun r h2 G2 => ZK_i (K h2 G2))).mI (fun r h1 X => by rw [X.1]; exact X.2)⟩
theorem a_840 {y : Int} {h : Hp} (C : LC g p s m meth c b) (G : GX h) (y0 : 0 ≤ y) (y1 : y + 5 < lnn g 1) (y2 : y ≤ 4000) (K : ∀ h2 : Hp, GX h2 → LZ g p e s m below meth c b 988 [some (LR 20 1), some (LR 9 4), some (LR 10 608), some (LI y)] [] S0 h2) : LZ g p e s m below meth c b 840 [some (LR 20 1), some (LR 9 4), some (LR 10 608), some (LI y)] [] S0 h := by
  obtain ⟨E, T, P, A, B, n, O, mm, pl, H, M⟩ := G
  refine v13_law_840 C ?_
  rw [w32_id (x := y + 1) (by omega) (by omega), w32_id (x := y + 2) (by omega) (by omega)]
  exact ⟨by omega, by omega, by omega, by omega, (l_shared (Z := ZK (fun h2 => LZ g p e s m below meth c b 988 [some (LR 20 1), some (LR 9 4), some (LR 10 608), some (LI y)] [] S0 h2)) H M (fun r h2 G2 => ZK_i (K h2 G2))).mI (fun r h1 X => by rw [X.1]; exact X.2)⟩
theorem a_873 {y : Int} {h : Hp} (C : LC g p s m meth c b) (G : GX h) (y0 : 0 ≤ y) (y1 : y + 5 < lnn g 1) (y2 : y ≤ 4000) (K : ∀ h2 : Hp, GX h2 → LZ g p e s m below meth c b 988 [some (LR 20 1), some (LR 9 4), some (LR 10 608), some (LI y)] [] S0 h2) : LZ g p e s m below meth c b 873 [some (LR 20 1), some (LR 9 4), some (LR 10 608), some (LI y)] [] S0 h := by
  obtain ⟨E, T, P, A, B, n, O, mm, pl, H, M⟩ := G
  refine v13_law_873 C ?_
  rw [w32_id (x := y + 1) (by omega) (by omega), w32_id (x := y + 2) (by omega) (by omega)]
  exact ⟨by omega, by omega, by omega, by omega, (l_clash (Z := ZK (fun h2 => LZ g p e s m below meth c b 988 [some (LR 20 1), some (LR 9 4), some (LR 10 608), some (LI y)] [] S0 h2)) H M (fun r h2 G2 => ZK_i (K h2 G2))).mI (fun r h1 X => by rw [X.1]; exact X.2)⟩
theorem a_906 {y : Int} {h : Hp} (C : LC g p s m meth c b) (G : GX h) (y0 : 0 ≤ y) (y1 : y + 5 < lnn g 1) (y2 : y ≤ 4000) (K : ∀ h2 : Hp, GX h2 → LZ g p e s m below meth c b 988 [some (LR 20 1), some (LR 9 4), some (LR 10 608), some (LI y)] [] S0 h2) : LZ g p e s m below meth c b 906 [some (LR 20 1), some (LR 9 4), some (LR 10 608), some (LI y)] [] S0 h := by
  obtain ⟨E, T, P, A, B, n, O, mm, pl, H, M⟩ := G
  refine v13_law_906 C ?_
  rw [w32_id (x := y + 1) (by omega) (by omega)]
  exact ⟨by omega, by omega, (l_print (Z := ZK (fun h2 => LZ g p e s m below meth c b 988 [some (LR 20 1), some (LR 9 4), some (LR 10 608), some (LI y)] [] S0 h2)) H M (fun r h2 G2 => ZK_i (K h2 G2))).mI (fun r h1 X => by rw [X.1]; exact X.2)⟩
theorem a_929 {y : Int} {h : Hp} (C : LC g p s m meth c b) (G : GX h) (y0 : 0 ≤ y) (y1 : y + 5 < lnn g 1) (y2 : y ≤ 4000) (K : ∀ h2 : Hp, GX h2 → LZ g p e s m below meth c b 988 [some (LR 20 1), some (LR 9 4), some (LR 10 608), some (LI y)] [] S0 h2) : LZ g p e s m below meth c b 929 [some (LR 20 1), some (LR 9 4), some (LR 10 608), some (LI y)] [] S0 h := by
  obtain ⟨E, T, P, A, B, n, O, mm, pl, H, M⟩ := G
  refine v13_law_929 C ?_
  rw [w32_id (x := y + 1) (by omega) (by omega)]
  exact ⟨by omega, by omega, (l_printNode (Z := ZK (fun h2 => LZ g p e s m below meth c b 988 [some (LR 20 1), some (LR 9 4), some (LR 10 608), some (LI y)] [] S0 h2)) H M (fun r h2 G2 => ZK_i (K h2 G2))).mI (fun r h1 X => by rw [X.1]; exact X.2)⟩
theorem a_952 {y : Int} {h : Hp} (C : LC g p s m meth c b) (G : GX h) (y0 : 0 ≤ y) (y1 : y + 5 < lnn g 1) (y2 : y ≤ 4000) (K : ∀ h2 : Hp, GX h2 → LZ g p e s m below meth c b 988 [some (LR 20 1), some (LR 9 4), some (LR 10 608), some (LI y)] [] S0 h2) : LZ g p e s m below meth c b 952 [some (LR 20 1), some (LR 9 4), some (LR 10 608), some (LI y)] [] S0 h := by
  obtain ⟨E, T, P, A, B, n, O, mm, pl, H, M⟩ := G
  refine v13_law_952 C ?_
  rw [w32_id (x := y + 1) (by omega) (by omega)]
  exact ⟨by omega, by omega, (l_out (Z := ZK (fun h2 => LZ g p e s m below meth c b 988 [some (LR 20 1), some (LR 9 4), some (LR 10 608), some (LI y)] [] S0 h2)) H M (fun r h2 G2 => ZK_i (K h2 G2))).mI (fun r h1 X => by rw [X.1]; exact X.2)⟩
theorem a_975 {y : Int} {h : Hp} (C : LC g p s m meth c b) (G : GX h) (y0 : 0 ≤ y) (y1 : y + 5 < lnn g 1) (y2 : y ≤ 4000) (K : ∀ h2 : Hp, GX h2 → LZ g p e s m below meth c b 988 [some (LR 20 1), some (LR 9 4), some (LR 10 608), some (LI y)] [] S0 h2) : LZ g p e s m below meth c b 975 [some (LR 20 1), some (LR 9 4), some (LR 10 608), some (LI y)] [] S0 h := by
  obtain ⟨E, T, P, A, B, n, O, mm, pl, H, M⟩ := G
  refine v13_law_975 C ?_
  exact (l_back (Z := ZK (fun h2 => LZ g p e s m below meth c b 988 [some (LR 20 1), some (LR 9 4), some (LR 10 608), some (LI y)] [] S0 h2)) H M (fun r h2 G2 => ZK_i (K h2 G2))).mI (fun r h1 X => X.2)
theorem law_loop (C : LC g p s m meth c b) : ∀ (k : Nat) (y : Int) (h : Hp), GX h → 0 ≤ y → y ≤ 3100 → lnn g 1 ≤ y + k → LZ g p e s m below meth c b 18 [some (LR 20 1), some (LR 9 4), some (LR 10 608), some (LI y)] [] S0 h := by
  have l9 : lnn g 1 ≤ 3072 ∧ 0 ≤ lnn g 1 := by
    have := C.1.2.2.2.2.2.2.1.2.2.2.2
    have e1 : lnn g 1 = (gN g : Int) := rfl
    omega
  intro k
  induction k with
  | zero =>
    intro y h G y0 y9 hk
    refine v13_law_18 C ⟨fun _ => trivial, fun z => absurd ?_ z⟩
    rw [w32_id (by omega) (by omega)]
    omega
  | succ k ih =>
    intro y h G y0 y9 hk
    refine v13_law_18 C ⟨fun _ => trivial, fun z => ?_⟩
    rw [w32_id (by omega) (by omega)] at z
    have K : ∀ h2 : Hp, GX h2 → LZ g p e s m below meth c b 988 [some (LR 20 1), some (LR 9 4), some (LR 10 608), some (LI y)] [] S0 h2 := fun h2 G2 => v13_law_988 C (by
      rw [w32_id (by omega) (by omega)]
      exact ih (y + 6) h2 G2 (by omega) (by omega) (by omega))
    exact ⟨y0, by omega, fun _ => K h G, fun _ => a_164 C G y0 (by omega) (by omega) K, fun _ => a_187 C G y0 (by omega) (by omega) K, fun _ => a_220 C G y0 (by omega) (by omega) K, fun _ => a_279 C G y0 (by omega) (by omega) K, fun _ => a_342 C G y0 (by omega) (by omega) K, fun _ => a_365 C G y0 (by omega) (by omega) K, fun _ => a_388 C G y0 (by omega) (by omega) K, fun _ => a_411 C G y0 (by omega) (by omega) K, fun _ => a_424 C G y0 (by omega) (by omega) K, fun _ => a_447 C G y0 (by omega) (by omega) K, fun _ => a_460 C G y0 (by omega) (by omega) K, fun _ => a_483 C G y0 (by omega) (by omega) K, fun _ => a_516 C G y0 (by omega) (by omega) K, fun _ => a_550 C G y0 (by omega) (by omega) K, fun _ => a_583 C G y0 (by omega) (by omega) K, fun _ => a_596 C G y0 (by omega) (by omega) K, fun _ => a_619 C G y0 (by omega) (by omega) K, fun _ => a_642 C G y0 (by omega) (by omega) K, fun _ => a_685 C G y0 (by omega) (by omega) K, fun _ => a_718 C G y0 (by omega) (by omega) K, fun _ => a_751 C G y0 (by omega) (by omega) K, fun _ => a_784 C G y0 (by omega) (by omega) K, fun _ => a_807 C G y0 (by omega) (by omega) K, fun _ => a_840 C G y0 (by omega) (by omega) K, fun _ => a_873 C G y0 (by omega) (by omega) K, fun _ => a_906 C G y0 (by omega) (by omega) K, fun _ => a_929 C G y0 (by omega) (by omega) K, fun _ => a_952 C G y0 (by omega) (by omega) K, fun _ => a_975 C G y0 (by omega) (by omega) K⟩
end LAW
