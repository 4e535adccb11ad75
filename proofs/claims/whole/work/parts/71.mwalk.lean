/-! MATCHING, the model: orders, goals -/
def byF : Nat → Nat
  | 3 => 2
  | 4 => 6
  | _ => 1
def lfF (n i : Nat) : Nat → Nat
  | 0 => i
  | k + 1 => lfF n i k % byF (n - k)
def tkF (n i : Nat) : Nat → Nat
  | 0 => 0
  | k + 1 => tkF n i k ||| (1 <<< ord n i k)
def wlF : Nat → Nat → Nat → Nat → Nat
  | 0, _, _, _ => 99
  | f + 1, t, m, v => if t.testBit v then wlF f t m (v + 1) else if m = 0 then v else wlF f t (m - 1) (v + 1)
theorem ord_M : ∀ n : Nat, n ≤ 4 → ∀ i : Nat, i < ocT.getD n 0 → ∀ k : Nat, k < n → wlF 8 (tkF n i k) (lfF n i k / byF (n - k)) 0 = ord n i k ∧ tkF n i k < 16 ∧ lfF n i k < 24 := by
  have key : ((List.range 5).all (fun n => (List.range 24).all (fun i => (List.range 4).all (fun k => decide (i < ocT.getD n 0 → k < n → wlF 8 (tkF n i k) (lfF n i k / byF (n - k)) 0 = ord n i k ∧ tkF n i k < 16 ∧ lfF n i k < 24))))) = true := by decide +kernel
  intro n hn i hi k hk
  have i24 : i < 24 := by
    have := (oc_p n hn).2
    omega
  have k1 := List.all_eq_true.mp key n (List.mem_range.mpr (by omega))
  have k2 := List.all_eq_true.mp k1 i (List.mem_range.mpr i24)
  have k3 := List.all_eq_true.mp k2 k (List.mem_range.mpr (by omega))
  exact of_decide_eq_true k3 hi hk
section
variable {g : Gl} {d : Nat} {h : Hp}
theorem m_order {Q : Hp → Prop} {n i : Nat} (n4 : n ≤ 4) (hi : i < ocT.getD n 0) (q : ∀ h' : Hp, (∀ k : Nat, k < n → h' 653 k = (ord n i k : Nat)) → (∀ a : Int, a ≠ 653 → h' a = h a) → Q h') : Good g (d + 1) i10_order [LR 10 608, LI n, LI i] S0 h S0 (retV Q) := by
  have lp : ∀ (m k : Nat) (h2 : Hp), k + m = n → (∀ j : Nat, j < k → h2 653 j = (ord n i j : Nat)) → (∀ a : Int, a ≠ 653 → h2 a = h a) → L0 g d m10_order (retV Q) 8 [some (LR 10 608), some (LI n), none, some (LI (lfF n i k : Nat)), some (LI (tkF n i k : Nat)), some (LI k), none, none, none] h2 := by
    intro m
    induction m with
    | zero =>
      intro k h2 hk R2 F2
      exact v10_order_8 ⟨fun _ => q h2 (fun j hj => R2 j (by omega)) F2, fun z => absurd (by omega) z⟩
    | succ m ih =>
      intro k h2 hk R2 F2
      obtain ⟨om1, om2, om3⟩ := ord_M n n4 i hi k (by omega)
      have ob := ord_b n n4 i hi k (by omega)
      -- the search
      have srch : ∀ (f nt v : Nat), v + f ≤ 8 → nt < 24 → wlF f (tkF n i k) nt v = ord n i k → L0 g d m10_order (retV Q) 56 [some (LR 10 608), some (LI n), none, some (LI (lfF n i (k + 1) : Nat)), some (LI (tkF n i k : Nat)), some (LI k), none, some (LI nt), some (LI v)] h2 := by
        intro f
        induction f with
        | zero =>
          intro nt v hv hnt hw
          have : (99 : Nat) = ord n i k := hw
          omega
        | succ f ihf =>
          intro nt v hv hnt hw
          unfold wlF at hw
          have bg := bit_get (tkF n i k) (by omega) v (by omega)
          refine v10_order_56 ?_
          rw [bg, w32_id (x := (nt : Int) - 0) (by omega) (by omega), w32_id (x := (v : Int) + 1) (by omega) (by omega), w32_id (x := (nt : Int) - 1) (by omega) (by omega), show (nt : Int) - 0 = nt by omega, show (v : Int) + 1 = ((v + 1 : Nat) : Int) by omega]
          refine ⟨fun c => ?_, fun c => ⟨fun c2 => ⟨by omega, by omega, fun h3 k3 => ?_⟩, fun c2 => ?_⟩⟩
          · have tb : (tkF n i k).testBit v = true := Classical.byContradiction (fun z => by rw [if_neg z] at c; exact absurd c (by decide))
            rw [if_pos tb] at hw
            exact ihf nt (v + 1) (by omega) hnt hw
          · have tb : ¬ (tkF n i k).testBit v = true := fun z => c (by rw [if_pos z])
            rw [if_neg tb, if_pos (by omega)] at hw
            have bs := bit_set (tkF n i k) (by omega) v (by omega)
            rw [bs, w32_id (by omega) (by omega), show (k : Int) + 1 = ((k + 1 : Nat) : Int) by omega]
            have et : tkF n i k ||| (1 <<< v) = tkF n i (k + 1) := by
              show _ = tkF n i k ||| (1 <<< ord n i k)
              rw [hw]
            rw [et]
            refine ih (k + 1) h3 (by omega) (fun j hj => ?_) (fun a ha => by rw [k3, hup_r ha]; exact F2 a ha)
            by_cases cj : j = k
            · subst cj
              rw [k3, hup_at, hw]
            · rw [k3, hup_nj (by omega)]
              exact R2 j (by omega)
          · have tb : ¬ (tkF n i k).testBit v = true := fun z => c (by rw [if_pos z])
            rw [if_neg tb, if_neg (by omega)] at hw
            rw [show (nt : Int) - 1 = ((nt - 1 : Nat) : Int) by omega]
            exact ihf (nt - 1) (v + 1) (by omega) (by omega) hw
      have fin : ∀ by_ x : Int, by_ = (byF (n - k) : Nat) → w32 ((n : Int) - k) ≤ x → by_ ≠ 0 ∧ L0 g d m10_order (retV Q) 56 [some (LR 10 608), some (LI n), none, some (LI (w32 ((lfF n i k : Nat) - Int.tdiv (lfF n i k : Nat) by_ * by_))), some (LI (tkF n i k : Nat)), some (LI k), none, some (LI (w32 (Int.tdiv (lfF n i k : Nat) by_))), some (LI 0)] h2 := by
        intro by_ x hb _
        have b1 : 1 ≤ byF (n - k) ∧ byF (n - k) ≤ 6 := by
          have : n - k = 1 ∨ n - k = 2 ∨ n - k = 3 ∨ n - k = 4 := by omega
          rcases this with z | z | z | z <;> rw [z] <;> decide
        have dv : Int.tdiv (lfF n i k : Nat) by_ = ((lfF n i k / byF (n - k) : Nat) : Int) := by
          rw [hb]
          rfl
        have md : ((lfF n i k : Nat) : Int) - ((lfF n i k / byF (n - k) : Nat) : Int) * by_ = (lfF n i (k + 1) : Nat) := by
          show _ = ((lfF n i k % byF (n - k) : Nat) : Int)
          rw [hb]
          have := Nat.div_add_mod (lfF n i k) (byF (n - k))
          have e := congrArg (fun x : Nat => (x : Int)) this
          simp only [Int.natCast_add, Int.natCast_mul] at e
          rw [Int.mul_comm] at e
          omega
        have ql : lfF n i k / byF (n - k) ≤ lfF n i k := Nat.div_le_self _ _
        have ml : lfF n i (k + 1) < 24 := by
          show lfF n i k % byF (n - k) < 24
          have := Nat.mod_le (lfF n i k) (byF (n - k))
          omega
        rw [dv, md]
        have om1' := om1
        generalize lfF n i k / byF (n - k) = qv at *
        rw [w32_id (x := (qv : Int)) (by omega) (by omega), w32_id (by omega) (by omega)]
        exact ⟨by omega, srch 8 qv 0 (by decide) (by omega) om1'⟩
      refine v10_order_8 ⟨fun z => absurd z (by omega), fun _ => ?_⟩
      have wn : w32 ((n : Int) - k) = (n : Int) - k := w32_id (by omega) (by omega)
      have cs : n - k = 1 ∨ n - k = 2 ∨ n - k = 3 ∨ n - k = 4 := by omega
      refine v10_order_20 ⟨fun c => fin 1 2 (by rcases cs with z | z | z | z <;> rw [z] <;> first | rfl | (exfalso; rw [wn] at c; omega)) c, fun c => ?_⟩
      rw [show w32 (1 * 2) = 2 by decide, show w32 (2 + 1) = 3 by decide]
      refine v10_order_20 ⟨fun c2 => fin 2 3 (by rcases cs with z | z | z | z <;> rw [z] <;> first | rfl | (exfalso; rw [wn] at c c2; omega)) c2, fun c2 => ?_⟩
      rw [show w32 (2 * 3) = 6 by decide, show w32 (3 + 1) = 4 by decide]
      exact v10_order_20 ⟨fun c3 => fin 6 4 (by rcases cs with z | z | z | z <;> rw [z] <;> first | rfl | (exfalso; rw [wn] at c c2 c3; omega)) c3, fun c3 => absurd (show w32 ((n : Int) - k) ≤ 4 by rw [wn]; omega) c3⟩
  refine g10_order (fun _ _ => v10_order (lp n 0 h (by omega) (fun j hj => by omega) (fun _ _ => rfl)))
theorem m_orders {Q : Int → Hp → Prop} {n : Nat} (n4 : n ≤ 4) (q : Q (ocT.getD n 0 : Nat) h) : Good g (d + 1) i10_orders [LI n] S0 h S0 (retI Q) := by
  refine g10_orders (fun _ => v10_orders ⟨fun c => ⟨fun c2 => ⟨fun c3 => ?_, fun c3 => ?_⟩, fun c2 => ?_⟩, fun c => ?_⟩)
  · rwa [show n = 4 by omega] at q
  · rwa [show n = 3 by omega] at q
  · rwa [show n = 2 by omega] at q
  · have : n = 0 ∨ n = 1 := by omega
    rcases this with z | z <;> rwa [z] at q
end
/-- how a pattern's node stands in a goal; -2: the mark -/
def enc (pp p : Int) : Int := if p = -2 then -2 else 24 * pp + p
/-- goals from a link on, below b -/
def gl (pp : Int) (h : Hp) (b : Int) : List (Int × Int) → Int → Prop
  | [], l => l = -1
  | e :: r, l => 0 ≤ l ∧ l < b ∧ h 641 l = enc pp e.1 ∧ h 642 l = e.2 ∧ gl pp h b r (h 643 l)
theorem gl.to {pp : Int} {h h' : Hp} {b b' : Int} : ∀ {r : List (Int × Int)} {l : Int}, gl pp h b r l → b ≤ b' → (∀ i : Int, 0 ≤ i → i < b → h' 641 i = h 641 i ∧ h' 642 i = h 642 i ∧ h' 643 i = h 643 i) → gl pp h' b' r l
  | [], _, H, _, _ => H
  | e :: r, l, H, hb, e1 => by
    have := e1 l H.1 H.2.1
    exact ⟨H.1, by have := H.2.1; omega, by rw [this.1]; exact H.2.2.1, by rw [this.2.1]; exact H.2.2.2.1, by rw [this.2.2]; exact gl.to H.2.2.2.2 hb e1⟩
section
variable {g : Gl} {d : Nat} {h : Hp} {Q : Int → Hp → Prop}
/-- goal: a link more -/
theorem m_goal {G p t nx : Int} (hG : h 608 51 = G) (G0 : 0 ≤ G) (G1 : G < 10200) (q : ∀ h' : Hp, h' 608 51 = G + 1 → h' 641 G = p → h' 642 G = t → h' 643 G = nx → (∀ a i : Int, 641 ≤ a → a ≤ 643 → i ≠ G → h' a i = h a i) → (∀ a : Int, a ≠ 608 → ¬ (641 ≤ a ∧ a ≤ 643) → h' a = h a) → (∀ j : Int, j ≠ 51 → h' 608 j = h 608 j) → Q G h') : Good g (d + 1) i10_goal [LR 10 608, LI p, LI t, LI nx] S0 h S0 (retI Q) := by
  refine g10_goal (fun _ _ _ => v10_goal ?_)
  rw [hG]
  refine ⟨G0, G1, fun h1 k1 => ?_⟩
  have a1 : h1 608 51 = G := by rw [k1, hup_ne (by decide), hG]
  rw [a1]
  refine ⟨G0, G1, fun h2 k2 => ?_⟩
  have a2 : h2 608 51 = G := by rw [k2, hup_ne (by decide), a1]
  rw [a2]
  refine ⟨G0, G1, fun h3 k3 h4 k4 => ?_⟩
  have a3 : h3 608 51 = G := by rw [k3, hup_ne (by decide), a2]
  rw [a3, w32_id (by omega) (by omega)] at k4
  have a4 : h4 608 51 = G + 1 := by rw [k4, hup_at]
  rw [a4, show G + 1 - 1 = G by omega, w32_id (by omega) (by omega)]
  refine q h4 a4 ?_ ?_ ?_ (fun a i a0 a1 hi => ?_) (fun a c1 c2 => ?_) (fun j hj => ?_)
  · rw [k4, hup_ne (by decide), k3, hup_ne (by decide), k2, hup_ne (by decide), k1, hup_at]
  · rw [k4, hup_ne (by decide), k3, hup_ne (by decide), k2, hup_at]
  · rw [k4, hup_ne (by decide), k3, hup_at]
  · rw [k4, hup_ne (by omega), k3, hup_nj hi, k2, hup_nj hi, k1, hup_nj hi]
  · rw [k4, hup_r c1, k3, hup_r (by omega), k2, hup_r (by omega), k1, hup_r (by omega)]
  · rw [k4, hup_nj hj, k3, hup_ne (by decide), k2, hup_ne (by decide), k1, hup_ne (by decide)]
/-- partOf: of a pattern's node -/
theorem m_partOf {pp : Int} {P : NL} (p40 : 0 ≤ pp ∧ pp < 40) (mp : mPt pp P h) (wP : wf P 1) (l9 : ln P ≤ 24) {p : Int} (p0 : 0 ≤ p) (p1 : p < ln P) {k : Nat} (hk : ∀ j : Nat, j < k → kd P p j < ln P) (k9 : k ≤ 100) (q : Q (24 * pp + kd P p k) h) : Good g (d + 1) i10_partOf [LR 10 608, LI (24 * pp + p), LI k, LI (24 * pp)] S0 h S0 (retI Q) := by
  have lp : ∀ (m j : Nat), j + m = k → L0 g d m10_partOf (retI Q) 8 [some (LR 10 608), none, some (LI k), some (LI (24 * pp)), some (LI (24 * pp + kd P p j)), some (LI j)] h := by
    intro m
    induction m with
    | zero =>
      intro j hj
      exact v10_partOf_8 ⟨fun _ => by rw [show j = k by omega]; exact q, fun z => absurd (by omega) z⟩
    | succ m ih =>
      intro j hj
      have h1 := hk j (by omega)
      have h2 := kd_ge (L := P) (i := p) j
      have h3 := sz_le (L := P) (i := kd P p j) (by omega) h1
      have h4 := sz_pos (L := P) (i := kd P p j) (by omega) h1
      refine v10_partOf_8 ⟨fun z => absurd z (by omega), fun _ => ⟨by omega, by omega, ?_⟩⟩
      rw [(mp.2 (kd P p j) (by omega) h1).2.2.2.2.2.2.2, w32_id (by omega) (by omega), w32_id (by omega) (by omega), ← kd_s p0, show (j : Int) + 1 = ((j + 1 : Nat) : Int) by omega]
      exact ih (j + 1) (by omega)
  refine g10_partOf (fun _ _ _ => v10_partOf ?_)
  rw [w32_id (by omega) (by omega), show 24 * pp + p + 1 = 24 * pp + kd P p 0 by rw [kd_0]; omega]
  exact lp k 0 (by omega)
end
