/-! PATTERNS, the class: what is counted of them -/
def cntF (f : Int → Int) : Nat → Int
  | 0 => 0
  | k + 1 => cntF f k + f k
theorem cntF_01 {f : Int → Int} (hf : ∀ i, f i = 0 ∨ f i = 1) : ∀ k : Nat, 0 ≤ cntF f k ∧ cntF f k ≤ k
  | 0 => ⟨by simp [cntF], by simp [cntF]⟩
  | k + 1 => by
    have := cntF_01 hf k
    have := hf k
    simp only [cntF]
    omega
theorem cntF_c {f f' : Int → Int} : ∀ k : Nat, (∀ i : Int, 0 ≤ i → i < k → f i = f' i) → cntF f k = cntF f' k
  | 0, _ => rfl
  | k + 1, h => by
    simp only [cntF]
    rw [cntF_c k (fun i i0 i1 => h i i0 (by omega)), h k (by omega) (by omega)]
/-- holes ahead of the first with the name of node i, from y on, c being so many ahead of y -/
def agL (L : NL) (i : Int) : Nat → Int → Int → Int
  | 0, _, _ => -1
  | m + 1, y, c => if nd L y 3 = nd L i 3 then c else agL L i m (y + 1) (c + if nd L y 0 = 2 then 1 else 0)
def ag (L : NL) (i : Int) : Int := if nd L i 3 = -1 then -1 else agL L i i.toNat 0 0
noncomputable def nmd (L : NL) : Int := cntF (fun i => cb (nd L i 3 ≠ -1)) L.length
noncomputable def unl (L : NL) : Int := cntF (fun i => cb (nd L i 3 ≠ -1 ∧ ag L i = -1)) L.length
noncomputable def wld (L : NL) : Int := cntF (fun i => cb (nd L i 0 = 3 ∨ nd L i 0 = 4 ∨ nd L i 8 = 1)) L.length
/-- of the pattern at b: its nodes L and what is counted of them -/
def cPt (b : Int) (L : NL) (h : Hp) : Prop := cN (b + 1) L h ∧ cS (b + 1) L h ∧ (∀ i : Int, 0 ≤ i → i < ln L → isP L 0 i (h (b + 9) i)) ∧ (∀ i : Int, 0 ≤ i → i < ln L → h (b + 11) i = ag L i) ∧ h b 5 = nmd L ∧ h b 6 = unl L ∧ h b 7 = wld L
theorem cPt.to {b : Int} {L : NL} {h h' : Hp} (H : cPt b L h) (e : ∀ a : Int, b < a → a ≤ b + 11 → h' a = h a) (e5 : h' b 5 = h b 5) (e6 : h' b 6 = h b 6) (e7 : h' b 7 = h b 7) : cPt b L h' := by
  obtain ⟨h1, h2, h3, h4, h5, h6, h7⟩ := H
  refine ⟨h1.to (by rw [e (b + 1) (by omega) (by omega)]) (fun k k0 k1 => e _ (by omega) (by omega)), h2.to (e _ (by omega) (by omega)), ?_, ?_, by rw [e5]; exact h5, by rw [e6]; exact h6, by rw [e7]; exact h7⟩
  · rw [e (b + 9) (by omega) (by omega)]; exact h3
  · rw [e (b + 11) (by omega) (by omega)]; exact h4
section
variable {g : Gl} {d : Nat} {h : Hp} {E : Ev} {L : NL} {Q : Int → Hp → Prop}
theorem f_isWild (ok : okE E) (ce : cE E h) {b : Int} (nw : NDs g (b + 1) 24) (hb : 4 ≤ b) (cn : cN (b + 1) L h) (lc : ln L ≤ 24) {i : Int} (i0 : 0 ≤ i) (i1 : i < ln L) (on : okN E (nd L i)) (q : Q (cb (nd L i 0 = 3 ∨ nd L i 0 = 4 ∨ nd L i 8 = 1)) h) : Good g (d + 3) i6_isWild [LR 6 b, LI i, LR 2 5] S0 h S0 (retI Q) := by
  refine g6_isWild (fun _ _ => v6_isWild hb ⟨by omega, i0, by rw [nw.2.1]; omega, ?_⟩)
  rw [(cn.2 i i0 i1).1]
  refine ⟨fun c => ?_, fun c => ⟨fun c2 => ?_, fun c2 => f_isLooseNode ok ce nw cn lc i0 i1 on (bz (fun c3 => ?_) (fun c3 => ?_))⟩⟩
  · rwa [cb_t (Or.inl c)] at q
  · rwa [cb_t (Or.inr (Or.inl c2))] at q
  · rwa [cb_f (fun z => z.elim c (fun z => z.elim c2 c3))] at q
  · rwa [cb_t (Or.inr (Or.inr c3))] at q
theorem f_holesAhead {b : Int} (nw : NDs g (b + 1) 24) (hb : 4 ≤ b) (cn : cN (b + 1) L h) (lc : ln L ≤ 24) {i : Int} (i0 : 0 ≤ i) (i1 : i < ln L) (q : Q (ag L i) h) : Good g (d + 1) i6_holesAheadOfFirst [LR 6 b, LI i] S0 h S0 (retI Q) := by
  have lp : ∀ (m : Nat) (y c : Int), 0 ≤ y → y + m = i → 0 ≤ c → c ≤ y → (nd L i 3 ≠ -1 → Q (agL L i m y c) h) → L0 g d m6_holesAheadOfFirst (retI Q) 4 [some (LR 6 b), some (LI i), some (LI c), some (LI y)] h := by
    intro m
    induction m with
    | zero =>
      intro y c y0 hy c0 c1 q2
      refine v6_holesAheadOfFirst_4 hb ⟨fun _ => ?_, fun z => absurd (by omega) z⟩
      by_cases e : nd L i 3 = -1
      · unfold ag at q
        rwa [if_pos e] at q
      · exact q2 e
    | succ m ih =>
      intro y c y0 hy c0 c1 q2
      refine v6_holesAheadOfFirst_4 hb ⟨fun z => absurd z (by omega), fun _ => ⟨by omega, i0, by rw [nw.2.2.2.2.1]; omega, ?_⟩⟩
      rw [(cn.2 i i0 i1).2.2.2.1, (cn.2 y y0 (by omega)).2.2.2.1, (cn.2 y y0 (by omega)).1, nw.2.2.2.2.1, nw.2.1]
      refine ⟨fun e => ?_, fun e => ?_⟩
      · unfold ag at q
        rwa [if_pos e] at q
      · have q2 := q2 e
        unfold agL at q2
        refine ⟨y0, by omega, fun c2 => ⟨by omega, by omega, fun c3 => ?_, fun c3 => ?_⟩, fun c2 => ?_⟩
        · rw [if_neg c2, if_neg c3] at q2
          rw [w32_id (x := c + 0) (by omega) (by omega), w32_id (x := y + 1) (by omega) (by omega)]
          exact ih (y + 1) (c + 0) (by omega) (by omega) (by omega) (by omega) (fun _ => q2)
        · rw [if_neg c2, if_pos c3] at q2
          rw [w32_id (x := c + 1) (by omega) (by omega), w32_id (x := y + 1) (by omega) (by omega)]
          exact ih (y + 1) (c + 1) (by omega) (by omega) (by omega) (by omega) (fun _ => q2)
        · rwa [if_pos c2] at q2
  refine g6_holesAheadOfFirst (fun _ _ => v6_holesAheadOfFirst hb (lp i.toNat 0 0 (by decide) (by omega) (by decide) (by decide) (fun e => ?_)))
  unfold ag at q
  rwa [if_neg e] at q
theorem f_take (ok : okE E) (ce : cE E h) {p b rk : Int} (p0 : 0 ≤ p) (p1 : p < 40) (eb : b = 35 + 14 * p) {D : NL} {Q : Hp → Prop} (cn : cN (b + 1) L h) (l9 : ln L ≤ 24) (cd : cN 24 D h) (od : okL E D) (wd : wf D 1) (ld : ln D ≤ 24) (q : ∀ h' : Hp, cPt b D h' → h' b 3 = 1 → h' b 4 = rk → (∀ a : Int, ¬ (b ≤ a ∧ a ≤ b + 11) → h' a = h a) → Q h') : Good g (d + 4) i6_take [LR 6 b, LR 5 24, LI rk, LR 2 5] S0 h S0 (retV Q) := by
  have nw : NDs g (b + 1) 24 := by rw [eb]; exact NDs.pat p0 p1
  have la : lnn g (b + 11) = 24 := lnn_p (k := 11) p0 p1 (by decide) (by decide) (by omega) rfl
  have hb : 35 ≤ b := by omega
  have l0 := ln_nn L
  have d0 := ln_nn D
  refine g6_take (fun _ _ => v6_take (by omega) ?_)
  rw [cn.1]
  refine f_replace nw (by decide) (by omega) (by omega) cn cd (by decide) l0 (by omega) l9 (by omega) (fun h1 cn1 F1 G1 => ?_)
  rw [rpl_all] at cn1
  have ce1 : cE E h1 := ce.to (F1 5 (by omega)) (F1 6 (by omega)) (F1 7 (by omega)) (F1 8 (by omega)) (F1 9 (by omega))
  refine f_link ok ce1 nw (by omega) (by decide) cn1 ld od wd (fun h3 cs3 P3 F3 h5 k5 h6 k6 h7 k7 h8 k8 h9 k9 => ?_)
  have r9 : ∀ a : Int, a ≠ b → h9 a = h3 a := fun a ha => by rw [k9, hup_r ha, k8, hup_r ha, k7, hup_r ha, k6, hup_r ha, k5, hup_r ha]
  have cn9 : cN (b + 1) D h9 := cn1.to (by rw [r9 (b + 1) (by omega), F3 (b + 1) (by omega) (by omega)]) (fun k k0 k1 => by rw [r9 _ (by omega), F3 _ (by omega) (by omega)])
  have cs9 : cS (b + 1) D h9 := cs3.to (r9 _ (by omega))
  have ce9 : cE E h9 := ce1.to (by rw [r9 5 (by omega), F3 5 (by omega) (by omega)]) (by rw [r9 6 (by omega), F3 6 (by omega) (by omega)]) (by rw [r9 7 (by omega), F3 7 (by omega) (by omega)]) (by rw [r9 8 (by omega), F3 8 (by omega) (by omega)]) (by rw [r9 9 (by omega), F3 9 (by omega) (by omega)])
  have P9 : ∀ i : Int, 0 ≤ i → i < ln D → isP D 0 i (h9 (b + 9) i) := fun i i0 i1 => by
    rw [r9 _ (by omega), show b + 9 = b + 1 + 8 by omega]
    exact P3 i i0 i1
  have f3 : h9 b 3 = 1 := by rw [k9, hup_nj (by decide), k8, hup_nj (by decide), k7, hup_nj (by decide), k6, hup_at]
  have f4 : h9 b 4 = rk := by rw [k9, hup_nj (by decide), k8, hup_nj (by decide), k7, hup_nj (by decide), k6, hup_nj (by decide), k5, hup_at]
  have f5 : h9 b 5 = 0 := by rw [k9, hup_nj (by decide), k8, hup_nj (by decide), k7, hup_at]
  have f6 : h9 b 6 = 0 := by rw [k9, hup_nj (by decide), k8, hup_at]
  have f7 : h9 b 7 = 0 := by rw [k9, hup_at]
  have F9 : ∀ a : Int, ¬ (b ≤ a ∧ a ≤ b + 11) → h9 a = h a := fun a ha => by rw [r9 a (by omega), F3 a (by omega) (by omega), F1 a (by omega)]
  let A5 : Int → Int := fun i => cb (nd D i 3 ≠ -1)
  let A6 : Int → Int := fun i => cb (nd D i 3 ≠ -1 ∧ ag D i = -1)
  let A7 : Int → Int := fun i => cb (nd D i 0 = 3 ∨ nd D i 0 = 4 ∨ nd D i 8 = 1)
  have lp : ∀ (m : Nat) (y : Nat) (h2 : Hp), y + m = D.length → (∀ a : Int, a ≠ b → a ≠ b + 11 → h2 a = h9 a) → h2 b 3 = 1 → h2 b 4 = rk → (∀ i : Int, 0 ≤ i → i < y → h2 (b + 11) i = ag D i) → h2 b 5 = cntF A5 y → h2 b 6 = cntF A6 y → h2 b 7 = cntF A7 y → L0 g (d + 3) m6_take (retV Q) 52 [some (LR 6 b), none, none, some (LR 2 5), some (LI y)] h2 := by
    intro m
    induction m with
    | zero =>
      intro y h2 hy F2 a3 a4 aa a5 a6 a7
      have cn2 : cN (b + 1) D h2 := cn9.to (by rw [F2 (b + 1) (by omega) (by omega)]) (fun k k0 k1 => F2 _ (by omega) (by omega))
      have ly : (y : Int) = ln D := by unfold ln; omega
      refine v6_take_52 (by omega) ⟨fun _ => q h2 ⟨cn2, cs9.to (F2 _ (by omega) (by omega)), fun i i0 i1 => by rw [F2 (b + 9) (by omega) (by omega)]; exact P9 i i0 i1, fun i i0 i1 => aa i i0 (by omega), ?_, ?_, ?_⟩ a3 a4 (fun a ha => by rw [F2 a (by omega) (by omega)]; exact F9 a ha), fun z => absurd (by rw [cn2.1]; omega) z⟩
      · rw [a5, show y = D.length by omega]; rfl
      · rw [a6, show y = D.length by omega]; rfl
      · rw [a7, show y = D.length by omega]; rfl
    | succ m ih =>
      intro y h2 hy F2 a3 a4 aa a5 a6 a7
      have ly : (y : Int) < ln D := by unfold ln; omega
      have y24 : (y : Int) < 24 := by omega
      have b5 := cntF_01 (f := A5) (fun i => cb_01 _) y
      have b6 := cntF_01 (f := A6) (fun i => cb_01 _) y
      have b7 := cntF_01 (f := A7) (fun i => cb_01 _) y
      have cn2 : cN (b + 1) D h2 := cn9.to (by rw [F2 (b + 1) (by omega) (by omega)]) (fun k k0 k1 => F2 _ (by omega) (by omega))
      refine v6_take_52 (by omega) ⟨fun z => absurd z (by rw [cn2.1]; omega), fun _ => f_holesAhead nw (by omega) cn2 ld (by omega) ly ⟨by omega, by rw [la]; omega, fun h3' k3' => ⟨by omega, by rw [nw.2.2.2.2.1]; omega, ?_⟩⟩⟩
      have r3 : ∀ a : Int, a ≠ b + 11 → h3' a = h2 a := fun a ha => by rw [k3', hup_r ha]
      have cn3 : cN (b + 1) D h3' := cn2.to (by rw [r3 _ (by omega)]) (fun k k0 k1 => r3 _ (by omega))
      have ce3 : cE E h3' := ce9.to (by rw [r3 5 (by omega), F2 5 (by omega) (by omega)]) (by rw [r3 6 (by omega), F2 6 (by omega) (by omega)]) (by rw [r3 7 (by omega), F2 7 (by omega) (by omega)]) (by rw [r3 8 (by omega), F2 8 (by omega) (by omega)]) (by rw [r3 9 (by omega), F2 9 (by omega) (by omega)])
      -- the wild step, from any heap that differs from h3' at b alone
      have fin : ∀ (h4 : Hp), (∀ a : Int, a ≠ b → h4 a = h3' a) → h4 b 3 = 1 → h4 b 4 = rk → h4 b 5 = cntF A5 (y + 1) → h4 b 6 = cntF A6 (y + 1) → h4 b 7 = cntF A7 y → Good g (d + 3) i6_isWild [LR 6 b, LI y, LR 2 5] S0 h4 S0 (retI (fun r h7 => ((r = 0 → ∀ h11 : Hp, h11 = hup h7 b 7 (w32 ((h4 b 7) + 0)) → L0 g (d + 3) m6_take (retV Q) 52 [some (LR 6 b), none, none, some (LR 2 5), some (LI (w32 (y + 1)))] h11) ∧ (¬ r = 0 → ∀ h12 : Hp, h12 = hup h7 b 7 (w32 ((h4 b 7) + 1)) → L0 g (d + 3) m6_take (retV Q) 52 [some (LR 6 b), none, none, some (LR 2 5), some (LI (w32 (y + 1)))] h12)))) := by
        intro h4 F4 g3 g4 g5 g6 g7
        have cn4 : cN (b + 1) D h4 := cn3.to (by rw [F4 _ (by omega)]) (fun k k0 k1 => F4 _ (by omega))
        have ce4 : cE E h4 := ce3.to (F4 5 (by omega)) (F4 6 (by omega)) (F4 7 (by omega)) (F4 8 (by omega)) (F4 9 (by omega))
        have nxt : ∀ (v : Int) (h11 : Hp), h11 = hup h4 b 7 v → v = cntF A7 (y + 1) → L0 g (d + 3) m6_take (retV Q) 52 [some (LR 6 b), none, none, some (LR 2 5), some (LI (w32 (y + 1)))] h11 := by
          intro v h11 k11 hv
          rw [w32_id (by omega) (by omega), show (y : Int) + 1 = ((y + 1 : Nat) : Int) by omega]
          refine ih (y + 1) h11 (by omega) (fun a c1 c2 => by rw [k11, hup_r c1, F4 a c1, r3 a c2]; exact F2 a c1 c2) (by rw [k11, hup_nj (by decide)]; exact g3) (by rw [k11, hup_nj (by decide)]; exact g4) (fun i i0 i1 => ?_) (by rw [k11, hup_nj (by decide)]; exact g5) (by rw [k11, hup_nj (by decide)]; exact g6) (by rw [k11, hup_at, hv])
          rw [k11, hup_ne (by omega), F4 (b + 11) (by omega), k3']
          by_cases ci : i = y
          · subst ci
            rw [hup_at]
          · rw [hup_nj ci]
            exact aa i i0 (by omega)
        refine f_isWild ok ce4 nw (by omega) cn4 ld (by omega) ly (od _ (by omega) ly) ?_
        rw [g7, w32_id (x := cntF A7 y + 0) (by omega) (by omega), w32_id (x := cntF A7 y + 1) (by omega) (by omega)]
        refine bz (fun c h11 k11 => nxt _ h11 k11 ?_) (fun c h12 k12 => nxt _ h12 k12 ?_)
        · show _ = cntF A7 y + cb _
          rw [cb_f c]
        · show _ = cntF A7 y + cb _
          rw [cb_t c]
      have e4 : h3' (b + 1 + 4) y = nd D y 3 := (cn3.2 y (by omega) ly).2.2.2.1
      have z3 : h3' b 3 = 1 := by rw [r3 b (by omega)]; exact a3
      have z4 : h3' b 4 = rk := by rw [r3 b (by omega)]; exact a4
      have z5 : h3' b 5 = cntF A5 y := by rw [r3 b (by omega)]; exact a5
      have z6 : h3' b 6 = cntF A6 y := by rw [r3 b (by omega)]; exact a6
      have z7 : h3' b 7 = cntF A7 y := by rw [r3 b (by omega)]; exact a7
      rw [e4]
      refine ⟨fun c => fin h3' (fun _ _ => rfl) z3 z4 ?_ ?_ z7, fun c h13 k13 => ?_⟩
      · rw [z5]
        show _ = cntF A5 y + cb _
        rw [cb_f (fun z => z c)]
        omega
      · rw [z6]
        show _ = cntF A6 y + cb _
        rw [cb_f (fun z => z.1 c)]
        omega
      · rw [z5, w32_id (by omega) (by omega)] at k13
        have e11 : h13 (b + 11) y = ag D y := by rw [k13, hup_ne (by omega), k3', hup_at]
        have q5 : h13 b 5 = cntF A5 (y + 1) := by
          rw [k13, hup_at]
          show _ = cntF A5 y + cb _
          rw [cb_t c]
        have q6 : h13 b 6 = cntF A6 y := by rw [k13, hup_nj (by decide)]; exact z6
        rw [e11, q6, w32_id (x := cntF A6 y + 0) (by omega) (by omega), w32_id (x := cntF A6 y + 1) (by omega) (by omega)]
        refine ⟨fun c2 h15 k15 => fin h15 (fun a ha => by rw [k15, hup_r ha, k13, hup_r ha]) ?_ ?_ ?_ ?_ ?_, fun c2 h22 k22 => fin h22 (fun a ha => by rw [k22, hup_r ha, k13, hup_r ha]) ?_ ?_ ?_ ?_ ?_⟩
        · rw [k15, hup_nj (by decide), k13, hup_nj (by decide)]; exact z3
        · rw [k15, hup_nj (by decide), k13, hup_nj (by decide)]; exact z4
        · rw [k15, hup_nj (by decide)]; exact q5
        · rw [k15, hup_at]
          show _ = cntF A6 y + cb _
          rw [cb_f (fun z => c2 z.2)]
        · rw [k15, hup_nj (by decide), k13, hup_nj (by decide)]; exact z7
        · rw [k22, hup_nj (by decide), k13, hup_nj (by decide)]; exact z3
        · rw [k22, hup_nj (by decide), k13, hup_nj (by decide)]; exact z4
        · rw [k22, hup_nj (by decide)]; exact q5
        · rw [k22, hup_at]
          show _ = cntF A6 y + cb _
          rw [cb_t ⟨c, c2⟩]
        · rw [k22, hup_nj (by decide), k13, hup_nj (by decide)]; exact z7
  exact lp D.length 0 h9 (by omega) (fun _ _ _ => rfl) f3 f4 (fun i i0 i1 => by omega) f5 f6 f7
end
