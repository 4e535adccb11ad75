/-! THE CALLS OF THE LAW: the class's, then the model's; the answers are one -/
section
variable {g : Gl} {h : Hp} {E : Ev} {T : NL} {P : Ps} {A : Int} {B : Int → Int} {n : Int} {O : Int → Int} {m pl : Int} {Z : Int → Int → Hp → Prop}
theorem l_kind (H : cG E T P A B n O m pl h) (M : mG E T P A B n O m pl h) {u : Int} (k : ∀ (r : Int) (h2 : Hp), GX h2 → Z r r h2) : Good g 100 i9_kind [LR 9 4, LI u] S0 h S0 (retI (fun r h1 => h1 1 = h 1 ∧ Good g 100 i10_kind [LR 10 608, LI u] S0 h1 S0 (retI (Z r)))) := by
  have ok := H.1.1
  refine x_kind (d := 98) ok H.1.2.1 (fun c => ⟨rfl, y_kind (d := 97) ok M.1.2.1 (fun _ => k _ _ (GX.i H M)) (fun a b _ => absurd ⟨a, b⟩ c) (fun a b _ => absurd ⟨a, b⟩ c)⟩) (fun a b f => ⟨rfl, y_kind (d := 97) ok M.1.2.1 (fun c => absurd ⟨a, b⟩ c) (fun _ _ _ => k _ _ (GX.i H M)) (fun _ _ f2 => by omega)⟩) (fun a b f h1 ce1 F1 => ⟨F1 1 (by decide) (by decide), ?_⟩)
  obtain ⟨ok', x⟩ := eK_ok ok a b f
  have H1 : cG (eK E u) T P A B n O m pl h1 := H.e ok' x ce1 (fun a z => F1 a (by omega) (by omega))
  have M1 := M.to (h' := h1) (fun a z => F1 a (by omega) (by omega))
  exact y_kind (d := 97) ok M1.1.2.1 (fun c => absurd ⟨a, b⟩ c) (fun _ _ f2 => by omega) (fun _ _ _ h2 me2 F2 G2 => k _ _ (GX.i (H1.to (fun a z => F2 a (by omega) (by omega))) (M1.e ok' x me2 (fun a z1 z2 => F2 a z1 (by omega)) (fun j z1 _ => G2 j z1))))
theorem l_isUnder (H : cG E T P A B n O m pl h) (M : mG E T P A B n O m pl h) {a b : Int} (k : ∀ (r : Int) (h2 : Hp), GX h2 → Z r r h2) : Good g 100 i9_isUnder [LR 9 4, LI a, LI b] S0 h S0 (retI (fun r h1 => h1 1 = h 1 ∧ Good g 100 i10_isUnder [LR 10 608, LI a, LI b] S0 h1 S0 (retI (Z r)))) :=
  x_isUnder (d := 97) H.1.1 H.1.2.1 ⟨rfl, y_isUnder (d := 97) H.1.1 M.1.2.1 (k _ _ (GX.i H M))⟩
theorem l_head (H : cG E T P A B n O m pl h) (M : mG E T P A B n O m pl h) {u a l : Int} (l01 : l = 0 ∨ l = 1) (k : ∀ (r : Int) (h2 : Hp), GX h2 → Z r r h2) : Good g 100 i9_head [LR 9 4, LI u, LI a, LI l] S0 h S0 (retI (fun r h1 => h1 1 = h 1 ∧ Good g 100 i10_head [LR 10 608, LI u, LI a, LI l] S0 h1 S0 (retI (Z r)))) := by
  have ok := H.1.1
  refine x_head (d := 98) ok H.1.2.1 l01 (fun c => ⟨rfl, y_head (d := 97) ok M.1.2.1 l01 (fun _ => k _ _ (GX.i H M)) (fun a b _ => absurd ⟨a, b⟩ c) (fun a b _ _ _ => absurd ⟨a, b⟩ c) (fun a b _ _ _ => absurd ⟨a, b⟩ c)⟩) (fun b1 b2 c => ⟨rfl, y_head (d := 97) ok M.1.2.1 l01 (fun c => absurd ⟨b1, b2⟩ c) (fun _ _ _ => k _ _ (GX.i H M)) (fun _ _ a b _ => absurd ⟨a, b⟩ c) (fun _ _ a b _ => absurd ⟨a, b⟩ c)⟩) (fun b1 b2 b3 b4 f => ⟨rfl, y_head (d := 97) ok M.1.2.1 l01 (fun c => absurd ⟨b1, b2⟩ c) (fun _ _ c => absurd ⟨b3, b4⟩ c) (fun _ _ _ _ _ => k _ _ (GX.i H M)) (fun _ _ _ _ f2 => by omega)⟩) (fun b1 b2 b3 b4 f h1 ce1 F1 => ⟨F1 1 (by decide) (by decide) (by decide) (by decide), ?_⟩)
  obtain ⟨ok', x⟩ := eH_ok ok b1 b2 b3 b4 l01 f
  have H1 : cG (eH E u a l) T P A B n O m pl h1 := H.e ok' x ce1 (fun a z => F1 a (by omega) (by omega) (by omega) (by omega))
  have M1 := M.to (h' := h1) (fun a z => F1 a (by omega) (by omega) (by omega) (by omega))
  exact y_head (d := 97) ok M1.1.2.1 l01 (fun c => absurd ⟨b1, b2⟩ c) (fun _ _ c => absurd ⟨b3, b4⟩ c) (fun _ _ _ _ f2 => by omega) (fun _ _ _ _ _ h2 me2 F2 G2 => k _ _ (GX.i (H1.to (fun a z => F2 a (by omega) (by omega) (by omega) (by omega))) (M1.e ok' x me2 (fun a z1 z2 => F2 a z1 (by omega) (by omega) (by omega)) (fun j _ z2 => G2 j z2))))
theorem l_feed (H : cG E T P A B n O m pl h) (M : mG E T P A B n O m pl h) {x1 x2 x3 x4 x5 : Int} (k : ∀ (r : Int) (h2 : Hp), GX h2 → Z r r h2) : Good g 100 i9_feed [LR 9 4, LI x1, LI x2, LI x3, LI x4, LI x5] S0 h S0 (retI (fun r h1 => h1 1 = h 1 ∧ Good g 100 i10_feed [LR 10 608, LI x1, LI x2, LI x3, LI x4, LI x5] S0 h1 S0 (retI (Z r)))) := by
  refine x_feed (d := 97) H.2.2.2.1 (fun c h1 cx1 F1 => ⟨F1 1 (by decide) (by decide), ?_⟩) (fun c => ⟨rfl, y_feed (d := 98) M.2.2.2.1 (fun c2 => absurd c2 c) (fun _ => k _ _ (GX.i H M))⟩)
  have H1 := H.t cx1 F1
  have M1 := M.to (h' := h1) (fun a z => F1 a (by omega) (by omega))
  exact y_feed (d := 98) M1.2.2.2.1 (fun _ h2 mx2 F2 G2 => k _ _ (GX.i (H1.to (fun a z => F2 a (by omega) (by omega))) (M1.t mx2 F2 G2))) (fun c2 => absurd c c2)
theorem l_cut (H : cG E T P A B n O m pl h) (M : mG E T P A B n O m pl h) {x : Int} (k : ∀ (r : Int) (h2 : Hp), GX h2 → Z r r h2) : Good g 100 i9_cut [LR 9 4, LI x] S0 h S0 (retI (fun r h1 => h1 1 = h 1 ∧ Good g 100 i10_cut [LR 10 608, LI x] S0 h1 S0 (retI (Z r)))) := by
  refine x_cut (d := 99) H.2.2.2.1 (fun a b h1 cx1 F1 => ⟨F1 1 (by decide), ?_⟩) (fun c => ⟨rfl, y_cut (d := 98) M.2.2.2.1 (fun a b => absurd ⟨a, b⟩ c) (fun _ => k _ _ (GX.i H M))⟩)
  have H1 := H.t cx1 (fun a z1 _ => F1 a z1)
  have M1 := M.to (h' := h1) (fun a z => F1 a (by omega))
  exact y_cut (d := 98) M1.2.2.2.1 (fun _ _ h2 mx2 F2 G2 => k _ _ (GX.i (H1.to (fun a z => F2 a (by omega))) (M1.t mx2 (fun a z1 _ => F2 a z1) G2))) (fun c => absurd ⟨a, b⟩ c)
theorem l_pattern (H : cG E T P A B n O m pl h) (M : mG E T P A B n O m pl h) {rk : Int} (k : ∀ (r : Int) (h2 : Hp), GX h2 → Z r r h2) : Good g 100 i9_pattern [LR 9 4, LI rk] S0 h S0 (retI (fun r h1 => h1 1 = h 1 ∧ Good g 100 i10_pattern [LR 10 608, LI rk] S0 h1 S0 (retI (Z r)))) := by
  obtain ⟨ok, ce, oT, ct, op, cp, _⟩ := id H.1
  have me := M.1.2.1
  have mp := M.1.2.2.2.2.2
  have n0 := H.2.2.2.1.2.1
  have fp := frF_p (P := P) 40 0 (by decide)
  refine x_pattern (d := 55) ok op ce H.2.2.2.1 cp (fun c => ⟨rfl, y_pattern (d := 90) ok op me M.2.2.2.1 mp M.2.2.1 (fun _ => k _ _ (GX.i H M)) (fun a b _ => absurd ⟨a, b⟩ c) (fun a b _ _ => absurd ⟨a, b⟩ c) (fun a b _ _ => absurd ⟨a, b⟩ c)⟩) (fun a b f => ⟨rfl, y_pattern (d := 90) ok op me M.2.2.2.1 mp M.2.2.1 (fun c => absurd ⟨a, b⟩ c) (fun _ _ _ => k _ _ (GX.i H M)) (fun _ _ c => absurd f c) (fun _ _ c => absurd f c)⟩) (fun a b f z h1 F1 t1 p1 => ⟨F1 1 (by decide) (by decide) (by decide), ?_⟩) (fun a b f z h1 F1 t1 p1 cp1 => ⟨F1.1 1 (by decide) (by decide) (by decide) (by omega) (by decide) (by decide), ?_⟩)
  · have H1 := H.f F1 t1 p1
    have M1 := M.to (h' := h1) (fun a z => F1 a (by omega) (by omega) (by omega))
    exact y_pattern (d := 90) ok op M1.1.2.1 M1.2.2.2.1 M1.1.2.2.2.2.2 M1.2.2.1 (fun c => absurd ⟨a, b⟩ c) (fun _ _ c => absurd c f) (fun _ _ _ _ h2 F2 t2 p2 => k _ _ (GX.i (H1.to (fun a z => F2.1 a (by omega) (by omega))) (M1.f F2 t2 p2))) (fun _ _ _ z2 => absurd z2 z)
  · obtain ⟨od, wd, ld⟩ := rdA_okP (B := B) (n := n) (ip := true) ok n0 (by decide) z
    have op' := okP_put (p := frF P 40 0) op a b od wd ld
    have H1 := H.p (by omega) F1 t1 p1 cp1 op'
    have M1 := M.to (h' := h1) (fun a z => F1.1 a (by omega) (by omega) (by omega) (by omega) (by omega) (by omega))
    exact y_pattern (d := 90) ok op M1.1.2.1 M1.2.2.2.1 M1.1.2.2.2.2.2 M1.2.2.1 (fun c => absurd ⟨a, b⟩ c) (fun _ _ c => absurd c f) (fun _ _ _ z2 => absurd z z2) (fun _ _ _ _ h2 F2 t2 p2 mp2 ep2 => k _ _ (GX.i (H1.to (fun a z => F2.1 a (by omega) (by omega))) (M1.p F2 t2 p2 mp2 op' ep2)))
theorem l_drop (H : cG E T P A B n O m pl h) (M : mG E T P A B n O m pl h) {x : Int} (k : ∀ (r : Int) (h2 : Hp), GX h2 → Z r r h2) : Good g 100 i9_drop [LR 9 4, LI x] S0 h S0 (retI (fun r h1 => h1 1 = h 1 ∧ Good g 100 i10_drop [LR 10 608, LI x] S0 h1 S0 (retI (Z r)))) := by
  obtain ⟨ok, ce, oT, ct, op, cp, _⟩ := id H.1
  refine x_drop (d := 97) op cp (fun c => ⟨rfl, y_drop (d := 97) op M.1.2.2.2.2.2 M.2.2.1 (fun _ => k _ _ (GX.i H M)) (fun a b e => absurd ⟨a, b, e⟩ c)⟩) (fun a b e h1 F1 cp1 => ⟨F1.1 1 (by omega) (by decide) (by decide), ?_⟩)
  have op' := okP_drop op a b
  have H1 := H.d a b F1 cp1 op'
  have M1 := M.to (h' := h1) (fun a z => F1.1 a (by omega) (by omega) (by omega))
  exact y_drop (d := 97) op M1.1.2.2.2.2.2 M1.2.2.1 (fun c => absurd ⟨a, b, e⟩ c) (fun _ _ _ h2 F2 mp2 ep2 => k _ _ (GX.i (H1.to (fun a z => F2.1 a (by omega) (by omega))) (M1.d F2 mp2 op' ep2)))
theorem l_tree (H : cG E T P A B n O m pl h) (M : mG E T P A B n O m pl h) (k : ∀ (r : Int) (h2 : Hp), GX h2 → Z r r h2) : Good g 100 i9_tree [LR 9 4] S0 h S0 (retI (fun r h1 => h1 1 = h 1 ∧ Good g 100 i10_tree [LR 10 608] S0 h1 S0 (retI (Z r)))) := by
  obtain ⟨ok, ce, oT, ct, op, cp, _⟩ := id H.1
  have n0 := H.2.2.2.1.2.1
  refine x_tree (d := 54) ok ce H.2.2.2.1 ct oT (fun z h1 F1 t1 p1 ct1 => ⟨F1.1 1 (by decide) (by decide) (by decide) (by decide) (by decide), ?_⟩) (fun z h1 F1 t1 p1 => ⟨F1 1 (by decide) (by decide) (by decide), ?_⟩)
  · have oT' := (rdA_okT (B := B) (n := n) ok n0 (by decide) (by decide) z).1
    have H1 := H.r F1 t1 p1 ct1 oT'
    have M1 := M.to (h' := h1) (fun a z => F1.1 a (by omega) (by omega) (by omega) (by omega) (by omega))
    exact y_tree (d := 90) ok M1.1.2.1 M1.2.2.2.1 (fun _ h2 F2 t2 p2 mt2 => k _ _ (GX.i (H1.to (fun a z => F2.1 a (by omega) (by omega) (by omega))) (M1.r F2 t2 p2 mt2 oT'))) (fun z2 => absurd z z2)
  · have H1 := H.f F1 t1 p1
    have M1 := M.to (h' := h1) (fun a z => F1 a (by omega) (by omega) (by omega))
    exact y_tree (d := 90) ok M1.1.2.1 M1.2.2.2.1 (fun z2 => absurd z2 z) (fun _ h2 F2 t2 p2 => k _ _ (GX.i (H1.to (fun a z => F2.1 a (by omega) (by omega))) (M1.f F2 t2 p2)))
theorem l_change (H : cG E T P A B n O m pl h) (M : mG E T P A B n O m pl h) {x : Int} (k : ∀ (r : Int) (h2 : Hp), GX h2 → Z r r h2) : Good g 100 i9_change [LR 9 4, LI x] S0 h S0 (retI (fun r h1 => h1 1 = h 1 ∧ Good g 100 i10_change [LR 10 608, LI x] S0 h1 S0 (retI (Z r)))) := by
  obtain ⟨ok, ce, oT, ct, op, cp, _⟩ := id H.1
  have n0 := H.2.2.2.1.2.1
  have l9 := oT.2.2.1
  refine x_change (d := 54) (mo := 120 - ln T + sz T x) ok ce H.2.2.2.1 ct oT rfl (fun c => ⟨rfl, y_change (d := 90) (mo := 120 - ln T + sz T x) ok M.1.2.1 M.2.2.2.1 M.1.2.2.2.1 oT rfl (fun _ => k _ _ (GX.i H M)) (fun a b => absurd ⟨a, b⟩ c) (fun a b => absurd ⟨a, b⟩ c)⟩) (fun a b z h1 F1 t1 p1 ct1 => ⟨F1.1 1 (by decide) (by decide) (by decide) (by decide) (by decide), ?_⟩) (fun a b z h1 F1 t1 p1 => ⟨F1 1 (by decide) (by decide) (by decide), ?_⟩)
  · have s1 := sz_pos a b
    have s2 := sz_le a b
    obtain ⟨od, wd, ld⟩ := rdA_okT (B := B) (n := n) (mo := 120 - ln T + sz T x) ok n0 (by omega) (by omega) z
    have oT' := okT_rpl oT (oT.w a b) od wd a b ld
    have H1 := H.r F1 t1 p1 ct1 oT'
    have M1 := M.to (h' := h1) (fun a z => F1.1 a (by omega) (by omega) (by omega) (by omega) (by omega))
    exact y_change (d := 90) (mo := 120 - ln T + sz T x) ok M1.1.2.1 M1.2.2.2.1 M1.1.2.2.2.1 oT rfl (fun c => absurd ⟨a, b⟩ c) (fun _ _ _ h2 F2 t2 p2 mt2 => k _ _ (GX.i (H1.to (fun a z => F2.1 a (by omega) (by omega) (by omega))) (M1.r F2 t2 p2 mt2 oT'))) (fun _ _ z2 => absurd z z2)
  · have H1 := H.f F1 t1 p1
    have M1 := M.to (h' := h1) (fun a z => F1 a (by omega) (by omega) (by omega))
    exact y_change (d := 90) (mo := 120 - ln T + sz T x) ok M1.1.2.1 M1.2.2.2.1 M1.1.2.2.2.1 oT rfl (fun c => absurd ⟨a, b⟩ c) (fun _ _ z2 => absurd z2 z) (fun _ _ _ h2 F2 t2 p2 => k _ _ (GX.i (H1.to (fun a z => F2.1 a (by omega) (by omega))) (M1.f F2 t2 p2)))
theorem l_place (H : cG E T P A B n O m pl h) (M : mG E T P A B n O m pl h) (k : ∀ (r : Int) (h2 : Hp), GX h2 → Z r r h2) : Good g 100 i9_place [LR 9 4] S0 h S0 (retI (fun r h1 => h1 1 = h 1 ∧ Good g 100 i10_place [LR 10 608] S0 h1 S0 (retI (Z r)))) := by
  refine g9_place (d := 99) (v9_place ⟨rfl, g10_place (d := 99) (v10_place ?_)⟩)
  rw [H.2.2.2.2.2, M.2.2.2.2.2]
  exact k _ _ (GX.i H M)
theorem l_count (H : cG E T P A B n O m pl h) (M : mG E T P A B n O m pl h) {w : Int} (k : ∀ (r : Int) (h2 : Hp), GX h2 → Z r r h2) : Good g 100 i9_count [LR 9 4, LI w] S0 h S0 (retI (fun r h1 => h1 1 = h 1 ∧ Good g 100 i10_count [LR 10 608, LI w] S0 h1 S0 (retI (Z r)))) := by
  obtain ⟨ok, ce, oT, ct, op, cp, _⟩ := id H.1
  exact x_count (d := 95) ce op cp ct.1.1 H.2.2.2.1.1 H.2.2.2.2.1.1 ⟨rfl, y_count (d := 94) ok M.1.2.1 op M.1.2.2.2.2.2 M.2.2.1 M.1.2.2.2.1.1.1 M.2.2.2.1.1 M.2.2.2.2.1.1 (k _ _ (GX.i H M))⟩
theorem l_told (H : cG E T P A B n O m pl h) (M : mG E T P A B n O m pl h) {x w : Int} (k : ∀ (r : Int) (h2 : Hp), GX h2 → Z r r h2) : Good g 100 i9_told [LR 9 4, LI x, LI w] S0 h S0 (retI (fun r h1 => h1 1 = h 1 ∧ Good g 100 i10_told [LR 10 608, LI x, LI w] S0 h1 S0 (retI (Z r)))) := by
  obtain ⟨ok, ce, oT, ct, op, cp, _⟩ := id H.1
  exact x_told (d := 98) op cp ⟨rfl, y_told (d := 97) ok M.1.2.1 op M.1.2.2.2.2.2 (k _ _ (GX.i H M))⟩
theorem l_node (H : cG E T P A B n O m pl h) (M : mG E T P A B n O m pl h) {x w : Int} (k : ∀ (r : Int) (h2 : Hp), GX h2 → Z r r h2) : Good g 100 i9_node [LR 9 4, LI x, LI w] S0 h S0 (retL (fun r h1 => h1 1 = h 1 ∧ Good g 100 i10_node [LR 10 608, LI x, LI w] S0 h1 S0 (retL (Z r)))) := by
  obtain ⟨ok, ce, oT, ct, op, cp, _⟩ := id H.1
  refine x_node (d := 97) ok ce oT ct (fun r hr => ⟨rfl, y_node (d := 97) ok M.1.2.1 oT M.1.2.2.2.1 (fun r2 hr2 => ?_)⟩)
  rw [ndR_u hr2 hr]
  exact k _ _ (GX.i H M)
theorem l_alike (H : cG E T P A B n O m pl h) (M : mG E T P A B n O m pl h) {a b : Int} (k : ∀ (r : Int) (h2 : Hp), GX h2 → Z r r h2) : Good g 100 i9_alike [LR 9 4, LI a, LI b] S0 h S0 (retI (fun r h1 => h1 1 = h 1 ∧ Good g 100 i10_alike [LR 10 608, LI a, LI b] S0 h1 S0 (retI (Z r)))) := by
  obtain ⟨ok, ce, oT, ct, op, cp, _⟩ := id H.1
  exact x_alike (d := 97) oT ct ⟨rfl, y_alike (d := 97) oT M.1.2.2.2.1 (k _ _ (GX.i H M))⟩
theorem no_wf (c : T = []) (w : wf T 1) : False := by
  rw [c] at w
  exact absurd (show (1 : Nat) = 0 from w) (by decide)
theorem l_ask (H : cG E T P A B n O m pl h) (M : mG E T P A B n O m pl h) (k : ∀ (r : Int) (h2 : Hp), GX h2 → Z r r h2) : Good g 100 i9_ask [LR 9 4] S0 h S0 (retI (fun r h1 => h1 1 = h 1 ∧ Good g 100 i10_ask [LR 10 608] S0 h1 S0 (retI (Z r)))) := by
  refine x_ask (d := 18) H.1 H.2.1 (fun c => ⟨rfl, y_ask (d := 95) M.1 (fun _ => k _ _ (GX.i H M)) (fun w => (no_wf c w).elim)⟩) (fun w h1 F1 K1 => ⟨F1.1 1 (by decide) (by decide) (by decide) (fun p p0 p1 => by omega), ?_⟩)
  have H1 := H.a F1 K1
  have M1 := M.to (h' := h1) (fun a z => F1.1 a (by omega) (by omega) (by omega) (fun p p0 p1 => by omega))
  exact y_ask (d := 95) M1.1 (fun c => (no_wf c w).elim) (fun _ h2 F2 K2 => k _ _ (GX.i (H1.to (fun a z => F2.1 a (by omega) (by omega))) (M1.a F2 K2)))
theorem l_fit (H : cG E T P A B n O m pl h) (M : mG E T P A B n O m pl h) {i : Int} (k : ∀ (r : Int) (h2 : Hp), GX h2 → Z r r h2) : Good g 100 i9_fit [LR 9 4, LI i] S0 h S0 (retI (fun r h1 => h1 1 = h 1 ∧ Good g 100 i10_fit [LR 10 608, LI i] S0 h1 S0 (retI (Z r)))) := by
  refine x_fit (d := 99) H.2.1 (fun a => ⟨rfl, y_fit (d := 98) M.1 M.2.1 (fun _ => k _ _ (GX.i H M)) (fun b => by omega)⟩) (fun a r hr => ⟨rfl, y_fit (d := 98) M.1 M.2.1 (fun b => by omega) (fun _ r2 hr2 => ?_)⟩)
  rw [Th_u ahc_inj hr2 hr]
  exact k _ _ (GX.i H M)
theorem l_fillings (H : cG E T P A B n O m pl h) (M : mG E T P A B n O m pl h) {x : Int} (k : ∀ (r : Int) (h2 : Hp), GX h2 → Z r r h2) : Good g 100 i9_fillings [LR 9 4, LI x] S0 h S0 (retI (fun r h1 => h1 1 = h 1 ∧ Good g 100 i10_fillings [LR 10 608, LI x] S0 h1 S0 (retI (Z r)))) :=
  x_fillings (d := 98) H.1 H.2.1 ⟨rfl, y_fillings (d := 97) M.1 M.2.1 (k _ _ (GX.i H M))⟩
theorem l_filling (H : cG E T P A B n O m pl h) (M : mG E T P A B n O m pl h) {x f y : Int} (k : ∀ (r : Int) (h2 : Hp), GX h2 → Z r r h2) : Good g 100 i9_filling [LR 9 4, LI x, LI f, LI y] S0 h S0 (retI (fun r h1 => h1 1 = h 1 ∧ Good g 100 i10_filling [LR 10 608, LI x, LI f, LI y] S0 h1 S0 (retI (Z r)))) :=
  x_filling (d := 98) H.1 H.2.1 ⟨rfl, y_filling (d := 97) M.1 M.2.1 (k _ _ (GX.i H M))⟩
theorem l_asked (H : cG E T P A B n O m pl h) (M : mG E T P A B n O m pl h) {x w : Int} (k : ∀ (r : Int) (h2 : Hp), GX h2 → Z r r h2) : Good g 100 i9_asked [LR 9 4, LI x, LI w] S0 h S0 (retI (fun r h1 => h1 1 = h 1 ∧ Good g 100 i10_asked [LR 10 608, LI x, LI w] S0 h1 S0 (retI (Z r)))) :=
  x_asked (d := 98) H.1 H.2.1 ⟨rfl, y_asked (d := 97) M.1 M.2.1 (k _ _ (GX.i H M))⟩
theorem l_at (H : cG E T P A B n O m pl h) (M : mG E T P A B n O m pl h) {x y : Int} (k : ∀ (r : Int) (h2 : Hp), GX h2 → Z r r h2) : Good g 100 i9_at [LR 9 4, LI x, LI y] S0 h S0 (retI (fun r h1 => h1 1 = h 1 ∧ Good g 100 i10_at [LR 10 608, LI x, LI y] S0 h1 S0 (retI (Z r)))) := by
  refine x_at (d := 19) H.1 (fun c => ⟨rfl, y_at (d := 95) M.1 (fun _ => k _ _ (GX.i H M)) (fun a b e => absurd ⟨a, b, e⟩ c)⟩) (fun a b e h1 F1 => ⟨F1 1 (by decide) (by decide) (by decide), ?_⟩)
  have H1 := H.w (h' := h1) (fun a z1 z2 z3 => F1 a (by omega) z2 z3) (H.2.2.1.to (F1 603 (by decide) (by decide) (by decide)) (F1 604 (by decide) (by decide) (by decide)))
  have M1 := M.to (h' := h1) (fun a z => F1 a (by omega) (by omega) (by omega))
  exact y_at (d := 95) M1.1 (fun c => absurd ⟨a, b, e⟩ c) (fun _ _ _ h2 F2 => k _ _ (GX.i (H1.to (fun a z => F2.1 a (by omega) (by omega))) (M1.w F2)))
theorem l_found (H : cG E T P A B n O m pl h) (M : mG E T P A B n O m pl h) {x i : Int} (k : ∀ (r : Int) (h2 : Hp), GX h2 → Z r r h2) : Good g 100 i9_found [LR 9 4, LI x, LI i] S0 h S0 (retI (fun r h1 => h1 1 = h 1 ∧ Good g 100 i10_found [LR 10 608, LI x, LI i] S0 h1 S0 (retI (Z r)))) := by
  refine x_found (d := 18) H.1 H.2.2.1 (fun c => ⟨rfl, y_found (d := 95) M.1 (fun _ => k _ _ (GX.i H M)) (fun c2 => absurd c2 c)⟩) (fun c r h1 F1 K1 hr => ⟨F1 1 (by decide) (by decide) (by decide), ?_⟩)
  have H1 := H.w F1 K1
  have M1 := M.to (h' := h1) (fun a z => F1 a (by omega) (by omega) (by omega))
  refine y_found (d := 95) M1.1 (fun c2 => absurd c c2) (fun _ r2 h2 F2 hr2 => ?_)
  rw [Th_u (fun p q p0 _ q0 _ xp xq e => cbl_inj p0 q0 xp xq e) hr2 hr]
  exact k _ _ (GX.i (H1.to (fun a z => F2.1 a (by omega) (by omega))) (M1.w F2))
theorem l_looks (H : cG E T P A B n O m pl h) (M : mG E T P A B n O m pl h) {w : Int} (k : ∀ (r : Int) (h2 : Hp), GX h2 → Z r r h2) : Good g 100 i9_looks [LR 9 4, LI w] S0 h S0 (retI (fun r h1 => h1 1 = h 1 ∧ Good g 100 i10_looks [LR 10 608, LI w] S0 h1 S0 (retI (Z r)))) := by
  refine x_looks (d := 93) H.1 (fun h1 F1 => ⟨F1 1 (by decide) (by decide), ?_⟩)
  have H1 := H.l F1
  have M1 := M.to (h' := h1) (fun a z => F1 a (by omega) (by omega))
  exact y_looks (d := 95) M1.1 (fun h2 F2 => k _ _ (GX.i (H1.to (fun a z => F2.1 a (by omega) (by omega))) (M1.l F2)))
theorem l_parts (H : cG E T P A B n O m pl h) (M : mG E T P A B n O m pl h) {x w : Int} (k : ∀ (r : Int) (h2 : Hp), GX h2 → Z r r h2) : Good g 100 i9_parts [LR 9 4, LI x, LI w] S0 h S0 (retI (fun r h1 => h1 1 = h 1 ∧ Good g 100 i10_parts [LR 10 608, LI x, LI w] S0 h1 S0 (retI (Z r)))) := by
  refine x_parts (d := 94) H.1 (fun h1 F1 => ⟨F1 1 (by decide) (by decide), ?_⟩)
  have H1 := H.l F1
  have M1 := M.to (h' := h1) (fun a z => F1 a (by omega) (by omega))
  exact y_parts (d := 96) M1.1 (fun h2 F2 => k _ _ (GX.i (H1.to (fun a z => F2.1 a (by omega) (by omega))) (M1.l F2)))
theorem l_shared (H : cG E T P A B n O m pl h) (M : mG E T P A B n O m pl h) {x y : Int} (k : ∀ (r : Int) (h2 : Hp), GX h2 → Z r r h2) : Good g 100 i9_shared [LR 9 4, LI x, LI y] S0 h S0 (retI (fun r h1 => h1 1 = h 1 ∧ Good g 100 i10_shared [LR 10 608, LI x, LI y] S0 h1 S0 (retI (Z r)))) := by
  obtain ⟨ok, ce, oT, ct, op, cp, _⟩ := id H.1
  exact x_shared (E := E) (d := 97) op cp ⟨rfl, y_shared (d := 96) ok M.1.2.1 op M.1.2.2.2.2.2 (k _ _ (GX.i H M))⟩
theorem l_clash (H : cG E T P A B n O m pl h) (M : mG E T P A B n O m pl h) {x y : Int} (k : ∀ (r : Int) (h2 : Hp), GX h2 → Z r r h2) : Good g 100 i9_clash [LR 9 4, LI x, LI y] S0 h S0 (retI (fun r h1 => h1 1 = h 1 ∧ Good g 100 i10_clash [LR 10 608, LI x, LI y] S0 h1 S0 (retI (Z r)))) := by
  obtain ⟨ok, ce, oT, ct, op, cp, _⟩ := id H.1
  exact x_clash (d := 92) ok ce op cp ⟨rfl, y_clash (d := 94) ok M.1.2.1 op M.1.2.2.2.2.2 (k _ _ (GX.i H M))⟩
theorem l_print (H : cG E T P A B n O m pl h) (M : mG E T P A B n O m pl h) {x : Int} (k : ∀ (r : Int) (h2 : Hp), GX h2 → Z r r h2) : Good g 100 i9_print [LR 9 4, LI x] S0 h S0 (retI (fun r h1 => h1 1 = h 1 ∧ Good g 100 i10_print [LR 10 608, LI x] S0 h1 S0 (retI (Z r)))) := by
  refine x_print (d := 94) H.1 (fun c => ⟨rfl, y_print (d := 96) M.1 (fun _ => k _ _ (GX.i H M)) (fun c2 => absurd c2 c)⟩) (fun c h1 W1 F1 => ⟨F1 1 (by decide) (by decide), ?_⟩)
  have H1 := H.o W1 F1
  have M1 := M.to (h' := h1) (fun a z => F1 a (by omega) (by omega))
  exact y_print (d := 96) M1.1 (fun c2 => absurd c c2) (fun _ h2 W2 F2 => k _ _ (GX.i (H1.to (fun a z => F2.1 a (by omega) (by omega) (by omega) (by omega))) (M1.o W2 F2)))
theorem l_printNode (H : cG E T P A B n O m pl h) (M : mG E T P A B n O m pl h) {x : Int} (k : ∀ (r : Int) (h2 : Hp), GX h2 → Z r r h2) : Good g 100 i9_printNode [LR 9 4, LI x] S0 h S0 (retI (fun r h1 => h1 1 = h 1 ∧ Good g 100 i10_printNode [LR 10 608, LI x] S0 h1 S0 (retI (Z r)))) := by
  refine x_printNode (d := 94) H.1 (fun c => ⟨rfl, y_printNode (d := 96) M.1 (fun _ => k _ _ (GX.i H M)) (fun c2 => absurd c2 c)⟩) (fun c h1 W1 F1 => ⟨F1 1 (by decide) (by decide), ?_⟩)
  have H1 := H.o W1 F1
  have M1 := M.to (h' := h1) (fun a z => F1 a (by omega) (by omega))
  exact y_printNode (d := 96) M1.1 (fun c2 => absurd c c2) (fun _ h2 W2 F2 => k _ _ (GX.i (H1.to (fun a z => F2.1 a (by omega) (by omega) (by omega) (by omega))) (M1.o W2 F2)))
theorem l_out (H : cG E T P A B n O m pl h) (M : mG E T P A B n O m pl h) {x : Int} (k : ∀ (r : Int) (h2 : Hp), GX h2 → Z r r h2) : Good g 100 i9_out [LR 9 4, LI x] S0 h S0 (retI (fun r h1 => h1 1 = h 1 ∧ Good g 100 i10_out [LR 10 608, LI x] S0 h1 S0 (retI (Z r)))) :=
  x_out (d := 98) H.2.2.2.2.1 ⟨rfl, y_out (d := 98) M.2.2.2.2.1 (k _ _ (GX.i H M))⟩
theorem l_back (H : cG E T P A B n O m pl h) (M : mG E T P A B n O m pl h) (k : ∀ (r : Int) (h2 : Hp), GX h2 → Z r r h2) : Good g 100 i9_back [LR 9 4] S0 h S0 (retI (fun r h1 => h1 1 = h 1 ∧ Good g 100 i10_back [LR 10 608] S0 h1 S0 (retI (Z r)))) := by
  refine x_back (d := 98) H.2.2.2.2.1 (fun h1 cx1 F1 => ⟨F1 1 (by decide) (by decide), ?_⟩)
  have H1 := H.t cx1 F1
  have M1 := M.to (h' := h1) (fun a z => F1 a (by omega) (by omega))
  exact y_back (d := 99) M1.2.2.2.2.1 (fun h2 mx2 F2 G2 => k _ _ (GX.i (H1.to (fun a z => F2 a (by omega) (by omega))) (M1.t mx2 F2 G2)))
end
