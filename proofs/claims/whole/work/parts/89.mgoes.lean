/-! THE NET, the model: marks that go; looks, parts on both sides -/
section
variable {g : Gl} {d : Nat} {h : Hp} {E : Ev} {T : NL} {P : Ps} {L : NL} {Q : Int → Hp → Prop}
/-- what changes when the model looks -/
def mFrG (h h' : Hp) : Prop := (∀ a : Int, a ≠ 608 → a ≠ 659 → h' a = h a) ∧ ∀ j : Int, j ≠ 73 → h' 608 j = h 608 j
theorem m_goesWith (ok : okE E) (me : mE E h) (oT : okT E T) (wT : wf T 1) (mt : mT T h) {p : Int} (p0 : 0 ≤ p) (p1 : p < 40) (mp : mPt p L h) (oL : okL E L) (wL : wf L 1) (l9 : ln L ≤ 24) (s2 : ∀ i : Int, 0 ≤ i → i < ln L → nd L i 0 = 0 ∨ nd L i 0 = 1 ∨ nd L i 0 = 2) (q : ∀ h' : Hp, mFrG h h' → ((gw0 E L T).1 < ln L → h' 608 73 = (gw0 E L T).2) → Q (gw0 E L T).1 h') : Good g (d + 3) i10_goesWith [LR 10 608, LI p] S0 h S0 (retI Q) := by
  have l1 := oT.2.2.1
  have lp : ∀ (m : Nat) (k t c : Int) (pa : Fl) (h2 : Hp), k + m = ln L → GI L T k t c pa → mFrG h h2 → (∀ j : Int, 0 ≤ j → j < c → h2 659 j = pa j) → (∀ h' : Hp, mFrG h h' → ((gw E L T m k t c pa).1 < ln L → h' 608 73 = (gw E L T m k t c pa).2) → Q (gw E L T m k t c pa).1 h') → L0 g (d + 2) m10_goesWith (retI Q) 7 [some (LR 10 608), some (LI p), some (LI t), some (LI c), some (LI k), none, none, none] h2 := by
    intro m
    induction m with
    | zero =>
      intro k t c pa h2 hk H F hp q
      have e9 : h2 627 p = ln L := by rw [F.1 _ (by decide) (by decide)]; exact mp.1
      have ek : k = ln L := by omega
      refine v10_goesWith_7 ?_
      rw [e9]
      refine ⟨p0, p1, fun _ => ?_, fun z => absurd (by omega) z⟩
      have X := q h2 F (fun z => absurd z (by show ¬ k < ln L; omega))
      have e : (gw E L T 0 k t c pa).1 = ln L := by show k = ln L; exact ek
      rw [e] at X
      exact X
    | succ m ih =>
      intro k t c pa h2 hk H F hp q
      have k1 : k < ln L := by omega
      have t1 := GI_t H k1
      have k0 := H.1
      have t0 := H.2.1
      have hb' : hol L k ≤ k := (cbl_b (X := fun i => nd L i 0 = 2) k0).2
      have hc := H.2.2.1
      have hpa := H.2.2.2.1
      have hc0 : 0 ≤ c := by rw [hc]; exact (cbl_b (X := fun i => nd L i 0 = 2) k0).1
      have sk := s2 k k0 k1
      have ab := ag_b oL k0 k1
      have on := oL k k0 k1
      have ot := oT.1 t t0 t1
      have t9 := ot.p9 ok
      have tt := oT.2.2.2 t t0 t1
      have sl := sz_le t0 t1
      have sp := sz_pos t0 t1
      have e9 : h2 627 p = ln L := by rw [F.1 _ (by decide) (by decide)]; exact mp.1
      unfold gw at q
      refine v10_goesWith_7 ?_
      rw [e9]
      refine ⟨p0, p1, fun z => absurd z (by omega), fun _ h3 k3 => ?_⟩
      have G3 : mFrG h h3 := ⟨fun a x1 x2 => by rw [k3, hup_r x1]; exact F.1 a x1 x2, fun j hj => by rw [k3, hup_nj hj]; exact F.2 j hj⟩
      have me3 : mE E h3 := me.to (G3.2 0 (by decide)) (G3.2 2 (by decide)) (G3.1 609 (by decide) (by decide)) (G3.1 610 (by decide) (by decide)) (G3.1 611 (by decide) (by decide)) (G3.1 612 (by decide) (by decide))
      have mt3 : mT T h3 := mt.to (G3.2 42 (by decide)) (G3.1 637 (by decide) (by decide)) (G3.1 638 (by decide) (by decide)) (G3.1 639 (by decide) (by decide))
      have mp3 : mPt p L h3 := mp.to (fun a b0 b1 => G3.1 a (by omega) (by omega))
      have st : h3 608 73 = t := by rw [k3, hup_at]
      have hp3 : ∀ j : Int, 0 ≤ j → j < c → h3 659 j = pa j := fun j j0 j1 => by rw [k3, hup_r (by decide)]; exact hp j j0 j1
      have M := mp3.2 k k0 k1
      have N := mt3.2 t t0 t1
      have no : ¬ gsP E L T k t pa → Q k h3 := fun z => by
        rw [if_neg z] at q
        exact q h3 G3 (fun _ => st)
      rw [w32_id (x := 24 * p) (by omega) (by omega), w32_id (x := 24 * p + k) (by omega) (by omega), w32_id (x := t + 1) (by omega) (by omega), M.1, M.2.1, M.2.2.1, M.2.2.2.2.2.1, N.1, N.2.1, N.2.2]
      simp only [lc_eq, lc_lt, lc_gt]
      have go : ∀ (k' t' c' : Int), k' = k → L0 g (d + 2) m10_goesWith (retI Q) 7 [some (LR 10 608), some (LI p), some (LI t'), some (LI c'), some (LI (k + 1)), none, none, none] h3 → L0 g (d + 2) m10_goesWith (retI Q) 250 [some (LR 10 608), some (LI p), some (LI t'), some (LI c'), some (LI k'), none, none, none] h3 := fun k' t' c' e X => by
        subst e
        refine v10_goesWith_250 ?_
        rw [w32_id (by omega) (by omega)]
        exact X
      -- a hole whose span holds
      have hole : nd L k 0 = 2 → (nd L k 4 = 1 → nd T t 0 = 1 ∧ nd L k 5 ≤ nd T t 5 ∧ nd T t 5 ≤ nd L k 6) → L0 g (d + 2) m10_goesWith (retI Q) 170 [some (LR 10 608), some (LI p), some (LI t), some (LI c), some (LI k), some (LI (24 * p + k)), none, none] h3 := fun z sh => by
        refine v10_goesWith_170 (m_againOf (d := d + 1) p0 p1 mp3 oL l9 k0 k1 (m_kindOf (d := d + 1) ok me3 mt3 l1 t0 t1 ot ⟨by omega, by omega, ?_⟩))
        rw [M.2.2.2.2.1]
        refine m_lies (d := d + 1) ok me3 t9.1 t9.2 (bz (fun y => no (fun v => by rcases v with v | v | v; omega; omega; exact y v.2.1.1)) (fun y => ?_))
        have take : gsP E L T k t pa → L0 g (d + 2) m10_goesWith (retI Q) 233 [some (LR 10 608), some (LI p), some (LI t), some (LI c), some (LI k), none, none, none] h3 := fun G => by
          rw [if_pos G, if_neg (by omega), if_pos z] at q
          refine v10_goesWith_233 ⟨hc0, by omega, fun h5 k5 => ⟨t0, by omega, ?_⟩⟩
          have e39 : h5 639 t = t + sz T t := by rw [k5, hup_r (by decide)]; exact N.2.2
          rw [e39, w32_id (by omega) (by omega)]
          refine v10_goesWith_250 ?_
          rw [w32_id (by omega) (by omega)]
          refine ih (k + 1) (t + sz T t) (c + 1) (fup pa c t) h5 (by omega) ((GI_s oL oT H k1 G).2.2 z) ⟨fun a x1 x2 => by rw [k5, hup_r x2]; exact G3.1 a x1 x2, fun j hj => by rw [k5, hup_r (by decide)]; exact G3.2 j hj⟩ (fun j j0 j1 => ?_) q
          by_cases cj : j = c
          · rw [k5, cj, hup_at, fup_at]
          · rw [k5, hup_nj cj, fup_ne cj]
            exact hp3 j j0 (by omega)
        refine ⟨fun w => take (Or.inr (Or.inr ⟨z, ⟨y, sh⟩, Or.inl (by omega)⟩)), fun w => ⟨by omega, by omega, ?_⟩⟩
        have ag0 : 0 ≤ ag L k ∧ ag L k < c := by omega
        have pv := hpa _ ag0.1 ag0.2
        rw [hp3 _ ag0.1 ag0.2]
        exact m_areAlike (d := d + 1) mt3 l1 pv.1 pv.2 t0 t1 (bn (fun v => take (Or.inr (Or.inr ⟨z, ⟨y, sh⟩, Or.inr v⟩))) (fun v => no (fun u => by rcases u with u | u | u; omega; omega; rcases u.2.2 with x | x; omega; exact v x)))
      have bad : nd L k 0 = 2 → ¬ (nd L k 4 = 1 → nd T t 0 = 1 ∧ nd L k 5 ≤ nd T t 5 ∧ nd T t 5 ≤ nd L k 6) → L0 g (d + 2) m10_goesWith (retI Q) 174 [some (LR 10 608), some (LI p), some (LI t), some (LI c), some (LI k), some (LI (24 * p + k)), none, none] h3 := fun z sh => by
        have n0 := no (fun v => by rcases v with v | v | v; omega; omega; exact sh v.2.1.2)
        refine v10_goesWith_174 (m_againOf (d := d + 1) p0 p1 mp3 oL l9 k0 k1 (m_kindOf (d := d + 1) ok me3 mt3 l1 t0 t1 ot ⟨by omega, by omega, ?_⟩))
        rw [M.2.2.2.2.1]
        exact m_lies (d := d + 1) ok me3 t9.1 t9.2 (bz (fun _ => n0) (fun _ => n0))
      refine ⟨by omega, by omega, fun z => ⟨fun z2 => ?_, fun z2 => ?_⟩, fun z => ?_⟩
      · have z3 : nd L k 0 = 2 := by omega
        refine fun _ => ⟨fun y => hole z3 (fun w => by omega), fun y => ⟨t0, by omega, fun w => bad z3 (fun v => ?_), fun w => ?_⟩⟩
        · have := v (by rcases on with o | o | o | o <;> omega)
          rcases ot with u | u | u | u <;> omega
        · have y4 : nd L k 4 = 1 := by rcases on with o | o | o | o <;> omega
          have tn : nd T t 0 = 1 := by rcases ot with u | u | u | u <;> omega
          rw [(M.2.2.2.2.2.2.1 y4).1, (M.2.2.2.2.2.2.1 y4).2]
          exact ⟨fun v => bad z3 (fun u => by have := u y4; omega), fun v => ⟨fun v2 => bad z3 (fun u => by have := u y4; omega), fun v2 => hole z3 (fun _ => ⟨tn, by omega, by omega⟩)⟩⟩
      · rw [if_pos z2]
        refine ⟨t0, by omega, fun y => no (fun v => ?_), fun y => ⟨fun w => ?_, fun w => no (fun v => ?_)⟩⟩
        · rcases v with v | v | v
          · omega
          · rcases ot with u | u | u | u <;> omega
          · omega
        · have tn : nd T t 0 = 1 := by rcases ot with u | u | u | u <;> omega
          have G : gsP E L T k t pa := Or.inr (Or.inl ⟨z2, tn, w⟩)
          rw [if_pos G, if_neg (by omega), if_neg (by omega)] at q
          exact go k _ c rfl (ih (k + 1) (t + sz T t) c pa h3 (by omega) ((GI_s oL oT H k1 G).2.1 z2) G3 hp3 q)
        · rcases v with v | v | v
          · omega
          · exact w v.2.2
          · omega
      · refine ⟨t0, by omega, fun y => ?_, fun y => no (fun v => ?_)⟩
        · have G : gsP E L T k t pa := Or.inl ⟨z, y⟩
          rw [if_pos G, if_pos z] at q
          exact go k _ c rfl (ih (k + 1) (t + 1) c pa h3 (by omega) ((GI_s oL oT H k1 G).1 z) G3 hp3 q)
        · rcases v with v | v | v
          · exact y v.2
          · omega
          · omega
  have l0 : 0 ≤ ln L := by unfold ln; omega
  exact g10_goesWith (fun _ => v10_goesWith (lp (ln L).toNat 0 0 0 (fun _ => 0) h (by omega) (GI_0 wL wT) ⟨fun _ _ _ => rfl, fun _ _ => rfl⟩ (fun j j0 j1 => by omega) q))
end
