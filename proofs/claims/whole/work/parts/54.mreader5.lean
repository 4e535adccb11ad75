/-! THE MODEL'S READER: one node -/
theorem LPo.en {h0 : Hp} {B : Int → Int} {n : Int} {ip : Bool} {mo : Int} {Q : Hp → Prop} {L : NL} {s : Stk} {en : Int → Int} {f p : Int} {x : Nd} (v : Int) (H : LPo h0 B n ip mo Q L s en f p x) : LPo h0 B n ip mo Q L s (fup en (ln L) v) f p x := by
  unfold LPo at *
  rw [fup_fup]
  exact H
/-- what is owed for the outcomes of one readNode at p -/
def NPo (h0 : Hp) (E : Ev) (B : Int → Int) (n : Int) (ip : Bool) (mo : Int) (Q : Hp → Prop) (L : NL) (s : Stk) (en : Int → Int) (q : Int) : Prop :=
  if 97 ≤ byt B n q ∧ byt B n q ≤ 122 then
    if ¬ byt B n q - 97 < E 0 1 then ∀ h : Hp, MFt h0 2 q h → Q h
    else if ¬ ln L < mo then ∀ h : Hp, MFt h0 4 q h → Q h
    else if byt B n (bl B n (q + 1)) = 40 then
      if ¬ 0 < E 3 (byt B n q - 97) then ∀ h : Hp, MFt h0 6 (bl B n (q + 1)) h → Q h
      else if 12 ≤ s.length then ∀ h : Hp, MFt h0 5 (bl B n (q + 1)) h → Q h
      else ∀ (v : Int) (h : Hp), MSt h0 ip mo (L ++ [hdN E (byt B n q - 97)]) (bl B n (q + 1) + 1) ((ln L, 0) :: s) (fup en (ln L) v) h → Q h
    else if 0 < E 3 (byt B n q - 97) then ∀ h : Hp, MFt h0 6 (bl B n (q + 1)) h → Q h
    else MCl h0 B n ip mo Q (L ++ [hdN E (byt B n q - 97)]) s (bl B n (q + 1)) (fup en (ln L) (ln L + 1))
  else if byt B n q = 45 ∨ (48 ≤ byt B n q ∧ byt B n q ≤ 57) then
    if (nuR B n q).1 = 3 then ∀ h : Hp, MFt h0 3 q h → Q h
    else if ¬ ln L < mo then ∀ h : Hp, MFt h0 4 q h → Q h
    else if (nuR B n q).1 ≠ 0 then ∀ h : Hp, MFt h0 (nuR B n q).1 (nuR B n q).2.1 h → Q h
    else MCl h0 B n ip mo Q (L ++ [nuN (nuR B n q).2.2]) s (bl B n (nuR B n q).2.1) (fup en (ln L) (ln L + 1))
  else if ip = true ∧ byt B n q = 63 then
    if ¬ ln L < mo then ∀ h : Hp, MFt h0 4 q h → Q h
    else LPo h0 B n ip mo Q L s en (hoR E B n (q + 1)).1 (hoR E B n (q + 1)).2.1 (hoR E B n (q + 1)).2.2
  else if ip = true ∧ byt B n q = 46 then
    if ¬ ln L < mo then ∀ h : Hp, MFt h0 4 q h → Q h
    else if 12 ≤ s.length then ∀ h : Hp, MFt h0 5 q h → Q h
    else if byt B n (q + 1) ≠ 46 then ∀ h : Hp, MFt h0 1 (q + 1) h → Q h
    else ∀ (v : Int) (h : Hp), MSt h0 ip mo (L ++ [ovN 3]) (q + 2) ((ln L, 0) :: s) (fup en (ln L) v) h → Q h
  else if ip = true ∧ byt B n q = 33 then
    if ¬ ln L < mo then ∀ h : Hp, MFt h0 4 q h → Q h
    else if 12 ≤ s.length then ∀ h : Hp, MFt h0 5 q h → Q h
    else ∀ (v : Int) (h : Hp), MSt h0 ip mo (L ++ [ovN 4]) (q + 1) ((ln L, 0) :: s) (fup en (ln L) v) h → Q h
  else ∀ h : Hp, MFt h0 1 q h → Q h
section
variable {g : Gl} {d : Nat} {h h0 : Hp} {E : Ev} {B : Int → Int} {n : Int} {ip : Bool} {mo : Int} {L : NL} {p q : Int} {s : Stk} {en : Int → Int} {Q : Hp → Prop}
theorem m_readHole (ok : okE E) (me : mE E h0) (mx : mX B n h0) (ol : okL E L) (hmo : mo ≤ 120) (lm : ln L ≤ mo) (hs : s.length ≤ 100) (os : okS E L s) (q0 : 0 ≤ q) (q1 : q < n) (M : MSt h0 ip mo L q s en h) (c4 : ¬ ln L < mo → ∀ h : Hp, MFt h0 4 q h → Q h) (C : ln L < mo → LPo h0 B n ip mo Q L s en (hoR E B n (q + 1)).1 (hoR E B n (q + 1)).2.1 (hoR E B n (q + 1)).2.2) : Good g (d + 7) i10_readHole [LR 10 608] S0 h S0 (retV Q) := by
  have n1 := mx.2.2.1
  have l0 := ln_nn L
  refine g10_readHole (v10_readHole (m_newNode (x := hoN 0 (-1) 0 0 0) hmo lm q0 (by omega) M rfl rfl rfl rfl rfl rfl (fun c h1 M1 _ => m_fine ?_) (fun c h1 F1 _ => m_fine ?_)))
  · rw [M1.2.2.2.2.2.1]
    refine bn (fun _ h8 k8 => ?_) (fun z => absurd rfl z)
    have C := (C c).en (h1 622 (ln L))
    rw [M1.2.2.2.2.1, w32_id (by omega) (by omega)] at k8
    have M8 := M1.ps k8
    refine m_here (M8.1.mx mx) M8.2.2.2.2.1 (by omega) (m_isDigit ?_)
    unfold hoR at C
    refine bz (fun c2 => ?_) (fun c2 => ?_)
    · rw [if_neg c2] at C
      exact m_readHole_57 ok me mx ol (by omega) hs os (by decide) (by decide) (by omega) (by omega) M8 C
    · rw [if_pos c2] at C
      have c3 := byt_in (B := B) (n := n) (i := q + 1) (by omega)
      refine m_here (M8.1.mx mx) M8.2.2.2.2.1 (by omega) ⟨l0, by omega, fun h19 k19 h20 k20 => ?_⟩
      rw [w32_id (by omega) (by omega)] at k19
      have ml := mNd_last M8.2.1
      have M19 : MSt h0 ip mo (L ++ [hoN 0 (byt B n (q + 1) - 48) 0 0 0]) (q + 1) s (fup en (ln L) (h1 622 (ln L))) h19 := by
        refine M8.nd (mNd_set M8.2.1 (by rw [k19, hup_ne (by decide)]) (fun a i c1 c2 c3 => by rw [k19, hup_nj c3]) ?_ ?_ ?_ (by rw [k19, hup_at]; rfl) ?_ ?_ (fun z => absurd z (by show ¬ (0 : Int) = 1; decide))) (by rw [ln_app, ln_app]; rfl) (by rw [k19]; exact M8.1.r (by decide)) (fun j _ _ _ => by rw [k19, hup_ne (by decide)]) (by rw [k19, hup_ne (by decide)]; exact M8.2.2.2.2.1) (by rw [k19, hup_ne (by decide)]; exact M8.2.2.2.2.2.1) (fun a c1 c2 => by rw [k19, hup_r (by omega)])
        · rw [k19, hup_ne (by decide)]; exact ml.1
        · rw [k19, hup_ne (by decide)]; exact ml.2.1
        · rw [k19, hup_ne (by decide), ml.2.2.1]; rfl
        · rw [k19, hup_ne (by decide)]; exact ml.2.2.2.2.1
        · rw [k19, hup_ne (by decide)]; exact ml.2.2.2.2.2
      rw [M19.2.2.2.2.1, w32_id (by omega) (by omega)] at k20
      exact m_readHole_57 ok me mx ol (by omega) hs os (by omega) (by omega) (by omega) (by omega) (M19.ps k20) C
  · rw [F1.2.1]
    exact bn (fun z => absurd z (by decide)) (fun _ => c4 c h1 F1)
theorem m_readNode (ok : okE E) (me : mE E h0) (mx : mX B n h0) (ol : okL E L) (hmo : mo ≤ 120) (lm : ln L ≤ mo) (hs : s.length ≤ 12) (os : okS E L s) (p0 : 0 ≤ p) (p1 : p ≤ n) (M : MSt h0 ip mo L p s en h) (C : NPo h0 E B n ip mo Q L s en (bl B n p)) : Good g (d + 8) i10_readNode [LR 10 608] S0 h S0 (retV Q) := by
  have n1 := mx.2.2.1
  have l0 := ln_nn L
  have o4 := ok.2.2.2.1
  have b1 := bl_p (B := B) (n := n) (p := p)
  have b1' := b1.2.1 p1
  refine g10_readNode (v10_readNode (m_blanks (M.1.mx mx) M.2.2.2.2.1 p0 (fun h1 k1 => ?_)))
  have M1 := M.ps k1
  clear M
  generalize hq : bl B n p = q at *
  have q0 : 0 ≤ q := by omega
  refine m_here (M1.1.mx mx) M1.2.2.2.2.1 q0 (m_in ?_)
  have hc9 := fun z => byt_in (B := B) (n := n) (i := q) z
  unfold NPo at C
  generalize hc : byt B n q = c at *
  refine bz (fun c1 => ?_) (fun c1 => ?_)
  · rw [if_neg c1] at C
    -- a number
    have nn : (c = 45 ∨ 48 ≤ c ∧ c ≤ 57) → L0 g (d + 7) m10_readNode (retV Q) 47 [some (LR 10 608), none, none, none, none] h1 := by
      intro c2
      rw [if_pos c2] at C
      have r := nuR_ok (B := B) (n := n) (p := q) q0 b1'
      have bad : ∀ {h2 : Hp} {f y : Int}, MFt h0 f y h2 → (∀ h : Hp, MFt h0 f y h → Q h) → ∀ {A : Prop}, (cb (h2 608 21 = 0) = 0 → L0 g (d + 7) m10_readNode (retV Q) 81 [none, none, none, none, none] h2) ∧ (¬ cb (h2 608 21 = 0) = 0 → A) := by
        intro h2 f y F q A
        rw [F.2.1]
        exact bz (fun _ => v10_readNode_81 (q h2 F)) (fun z => absurd z F.2.2.2.1)
      refine v10_readNode_47 (m_number (M1.1.mx mx) M1.2.2.2.2.1 M1.2.2.2.2.2.1 q0 b1' (fun c3 h2 k2 => m_fine ?_) (fun c3 _ c4 h2 k2 => m_fine ?_) (fun c3 c4 h2 k2 => m_fine ?_) (fun c3 c4 h2 k2 => m_fine ?_))
      · rw [if_pos c3] at C
        exact bad (M1.mf q0 (by omega) (by decide) k2) C
      · rw [M1.2.1.1, M1.2.2.1] at c4
        rw [if_neg c3, if_pos (by omega)] at C
        exact bad (M1.mf q0 (by omega) (by decide) k2) C
      · rw [M1.2.1.1, M1.2.2.1] at c4
        have c4 : ln L < mo := by omega
        rw [if_neg (by omega), if_neg (fun z => z c4), if_pos (by omega), c3] at C
        exact bad (M1.mf q0 (by omega) (by decide) k2) C
      · rw [M1.2.1.1, M1.2.2.1] at c4
        have c4 : ln L < mo := by omega
        rw [if_neg (by omega), if_neg (fun z => z c4), if_neg (fun z => z c3)] at C
        have M2 := M1.ps k2
        rw [M2.2.2.2.2.2.1]
        refine bz (fun z => absurd rfl z) (fun _ => m_newNode (x := nuN 0) hmo lm r.1 (by omega) M2 rfl rfl rfl rfl rfl rfl (fun c5 h8 M8 _ => ⟨l0, by omega, fun h11 k11 => ?_⟩) (fun c5 => absurd c4 c5))
        have ml := mNd_last M8.2.1
        have M11 : MSt h0 ip mo (L ++ [nuN (nuR B n q).2.2]) (nuR B n q).2.1 s (fup en (ln L) (h8 622 (ln L))) h11 := by
          refine M8.nd (mNd_set M8.2.1 (by rw [k11, hup_ne (by decide)]) (fun a i c1 c2 c3 => by rw [k11, hup_nj c3]) ?_ ?_ (by rw [k11, hup_at]; rfl) ?_ ?_ ?_ (fun z => absurd z (by show ¬ (0 : Int) = 1; decide))) (by rw [ln_app, ln_app]; rfl) (by rw [k11]; exact M8.1.r (by decide)) (fun j _ _ _ => by rw [k11, hup_ne (by decide)]) (by rw [k11, hup_ne (by decide)]; exact M8.2.2.2.2.1) (by rw [k11, hup_ne (by decide)]; exact M8.2.2.2.2.2.1) (fun a c1 c2 => by rw [k11, hup_r (by omega)])
          · rw [k11, hup_ne (by decide)]; exact ml.1
          · rw [k11, hup_ne (by decide)]; exact ml.2.1
          · rw [k11, hup_ne (by decide)]; exact ml.2.2.2.1
          · rw [k11, hup_ne (by decide)]; exact ml.2.2.2.2.1
          · rw [k11, hup_ne (by decide)]; exact ml.2.2.2.2.2
        have X := m_end1 (g := g) (d := d + 5) (Q := Q) ok me mx ol (x := nuN (nuR B n q).2.2) (Or.inr (Or.inl ⟨rfl, rfl, rfl, rfl, rfl, r.2.2.2.1, r.2.2.2.2, rfl, rfl, rfl, rfl⟩)) (by omega) (by omega) os r.1 r.2.1 M11 (by rw [fup_fup]; exact C)
        exact Good.mV X (fun h z => v10_readNode_81 z)
    refine m_isDigit (bn (fun c2 => nn (Or.inr c2)) (fun c2 => ⟨fun c3 _ => ?_, fun c3 => nn (Or.inl c3)⟩))
    rw [if_neg (by omega)] at C
    have b209 : (ip = true → c ≠ 63 ∧ c ≠ 46 ∧ c ≠ 33) → L0 g (d + 7) m10_readNode (retV Q) 209 [some (LR 10 608), none, none, none, none] h1 := by
      intro hno
      rw [if_neg (fun z => (hno z.1).1 z.2), if_neg (fun z => (hno z.1).2.1 z.2), if_neg (fun z => (hno z.1).2.2 z.2)] at C
      refine v10_readNode_209 ?_
      rw [M1.2.2.2.2.1]
      exact m_wrong (fun _ h2 k2 => C h2 (M1.mf q0 (by omega) (by decide) k2)) (fun z => absurd M1.2.2.2.2.2.1 z)
    have t206 : ∀ {h5 : Hp}, Q h5 → L0 g (d + 7) m10_readNode (retV Q) 206 [none, none, none, none, none] h5 := fun z => v10_readNode_206 z
    -- .. and !
    have fbad : ∀ {h2 : Hp} {f y r4 : Int}, MFt h0 f y h2 → h2 608 20 ≤ 1001 → (∀ h : Hp, MFt h0 f y h → Q h) → L0 g (d + 7) m10_readNode (retV Q) 150 [some (LR 10 608), some (LI c), some (LI r4), none, none] h2 := by
      intro h2 f y r4 F hz q
      have a0 := F.2.2.2.2.1
      have e194 : ∀ {h3 : Hp}, MFt h0 f y h3 → L0 g (d + 7) m10_readNode (retV Q) 194 [some (LR 10 608), none, some (LI r4), none, none] h3 := by
        intro h3 F3
        refine v10_readNode_194 (m_fine ?_)
        rw [F3.2.1]
        exact bz (fun _ => t206 (q h3 F3)) (fun z => absurd z F3.2.2.2.1)
      refine v10_readNode_150 (fun h3 k3 => ?_)
      rw [w32_id (by omega) (by omega)] at k3
      have F3 := F.ps k3 (by omega) (by omega)
      have p3 : h3 608 20 = h2 608 20 + 1 := by rw [k3, hup_at]
      refine ⟨fun _ => e194 F3, fun _ => m_here (F3.1.mx mx) rfl F3.2.2.2.2.1 ⟨fun _ => v10_readNode_184 (fun h4 k4 => ?_), fun _ => m_wrong (fun z => absurd z (by rw [F3.2.1]; exact F3.2.2.2.1)) (fun _ => v10_readNode_184 (fun h4 k4 => ?_))⟩⟩
      · rw [p3, w32_id (by omega) (by omega)] at k4
        exact e194 (F3.ps k4 (by omega) (by omega))
      · rw [p3, w32_id (by omega) (by omega)] at k4
        exact e194 (F3.ps k4 (by omega) (by omega))
    have ov : (c = 46 ∨ c = 33) → ip = true → L0 g (d + 7) m10_readNode (retV Q) 123 [some (LR 10 608), some (LI c), none, none, none] h1 := by
      intro c5 hip
      have c9 := hc9 (by omega)
      rw [if_neg (fun z => by omega)] at C
      have go : ∀ (v : Int), (v = 3 ∧ c = 46 ∨ v = 4 ∧ c = 33) → Good g (d + 7) i10_newNode [LR 10 608, LI v] S0 h1 S0 (retI (fun r4 h2 => Good g (d + 7) i10_fine [LR 10 608] S0 h2 S0 (retI (fun r7 h5 => ((r7 = 0 → L0 g (d + 7) m10_readNode (retV Q) 150 [some (LR 10 608), some (LI c), some (LI r4), none, none] h5) ∧ (¬ r7 = 0 → Good g (d + 7) i10_deeper [LR 10 608] S0 h5 S0 (retV (fun h9 => L0 g (d + 7) m10_readNode (retV Q) 150 [some (LR 10 608), some (LI c), some (LI r4), none, none] h9)))))))) := by
        intro v hv
        refine m_newNode (x := ovN v) hmo lm q0 (by omega) M1 rfl rfl rfl rfl rfl rfl (fun c6 h2 M2 _ => m_fine ?_) (fun c6 h2 F2 z2 => m_fine ?_)
        · rw [M2.2.2.2.2.2.1]
          refine bz (fun z => absurd rfl z) (fun _ => m_deeper q0 (by omega) hs M2 (fun c7 h9 M9 => ?_) (fun c7 h9 F9 _ z9 => ?_))
          · obtain ⟨N1, N2, N3, N4, N5, N6, N7, N8, N9, N10⟩ := M9
            refine v10_readNode_150 (fun h3 k3 => ?_)
            rw [N5, w32_id (by omega) (by omega)] at k3
            have up : ∀ {h3 : Hp} {x : Int}, h3 = hup h9 608 20 x → MBs h0 h3 ∧ mNd (L ++ [ovN v]) h3 ∧ h3 608 18 = mo ∧ h3 608 19 = cb (ip = true) ∧ h3 608 20 = x ∧ h3 608 21 = 0 ∧ h3 608 24 = ((s.length : Nat) : Int) + 1 ∧ h3 608 27 = (s.length : Nat) ∧ stk s h3 ∧ ∀ i : Int, 0 ≤ i → i < ln (L ++ [ovN v]) → h3 622 i = (fup en (ln L) (h2 622 (ln L))) i := by
              intro h3 x k3
              subst k3
              exact ⟨N1.f (by decide), N2.to (hup_nj (by decide)) (fun a _ _ => hup_r (by omega)), by rw [hup_nj (by decide)]; exact N3, by rw [hup_nj (by decide)]; exact N4, hup_at, by rw [hup_nj (by decide)]; exact N6, by rw [hup_nj (by decide)]; exact N7, by rw [hup_nj (by decide)]; exact N8, N9.to (fun i _ => ⟨hup_ne (by decide), hup_ne (by decide)⟩), fun i i0 i1 => by rw [hup_ne (by decide)]; exact N10 i i0 i1⟩
            have e194 : ∀ {h3 : Hp} {x : Int}, h3 = hup h9 608 20 x → (∀ h : Hp, MSt h0 ip mo (L ++ [ovN v]) x ((ln L, 0) :: s) (fup en (ln L) (h2 622 (ln L))) h → Q h) → L0 g (d + 7) m10_readNode (retV Q) 194 [some (LR 10 608), none, some (LI (ln L)), none, none] h3 := by
              intro h3 x k3 C
              have U := up k3
              refine v10_readNode_194 (m_fine ?_)
              rw [U.2.2.2.2.2.1]
              exact bz (fun z => absurd rfl z) (fun _ => m_push U (by omega) (fun h' M' => t206 (C h' M')))
            refine ⟨fun c8 => ?_, fun c8 => ?_⟩
            · rw [if_neg (fun z => by omega), if_pos ⟨hip, by omega⟩, if_neg (fun z => z c6), if_neg (by omega)] at C
              have v4 : v = 4 := by omega
              subst v4
              exact e194 k3 (C (h2 622 (ln L)))
            · rw [if_pos ⟨hip, c8⟩, if_neg (fun z => z c6), if_neg (by omega)] at C
              have v3 : v = 3 := by omega
              subst v3
              have U := up k3
              refine m_here (U.1.mx mx) U.2.2.2.2.1 (by omega) ⟨fun c10 => v10_readNode_184 (fun h4 k4 => ?_), fun c10 => m_wrong (fun _ h7 k7 => v10_readNode_184 (fun h8 k8 => ?_)) (fun z => absurd U.2.2.2.2.2.1 z)⟩
              · rw [if_neg (fun z => z c10)] at C
                rw [U.2.2.2.2.1, w32_id (by omega) (by omega), k3, hup_hup, show q + 1 + 1 = q + 2 by omega] at k4
                exact e194 k4 (C (h2 622 (ln L)))
              · rw [if_pos c10] at C
                rw [U.2.2.2.2.1] at k7
                have F7 : MFt h0 1 (q + 1) h7 := by
                  subst k7
                  exact ⟨(U.1.f (by decide)).f (by decide), by rw [hup_nj (by decide), hup_at], hup_at, by decide, by rw [hup_nj (by decide), hup_nj (by decide), U.2.2.2.2.1]; omega, by rw [hup_nj (by decide), hup_nj (by decide), U.2.2.2.2.1]; omega⟩
                have p7 : h7 608 20 = q + 1 := by rw [k7, hup_nj (by decide), hup_nj (by decide), U.2.2.2.2.1]
                rw [p7, w32_id (by omega) (by omega)] at k8
                have F8 := F7.ps k8 (by omega) (by omega)
                refine v10_readNode_194 (m_fine ?_)
                rw [F8.2.1]
                exact bz (fun _ => t206 (C h8 F8)) (fun z => absurd z F8.2.2.2.1)
          · refine fbad F9 (by omega) ?_
            rcases hv with ⟨_, h46⟩ | ⟨_, h33⟩
            · rw [if_pos ⟨hip, h46⟩, if_neg (fun z => z c6), if_pos c7] at C
              exact C
            · rw [if_neg (fun z => by omega), if_pos ⟨hip, h33⟩, if_neg (fun z => z c6), if_pos c7] at C
              exact C
        · rw [F2.2.1]
          refine bz (fun _ => fbad F2 (by omega) ?_) (fun z => absurd z (by decide))
          rcases hv with ⟨_, h46⟩ | ⟨_, h33⟩
          · rw [if_pos ⟨hip, h46⟩, if_pos c6] at C
            exact C
          · rw [if_neg (fun z => by omega), if_pos ⟨hip, h33⟩, if_pos c6] at C
            exact C
      exact v10_readNode_123 ⟨fun c8 => go 4 (by omega), fun c8 => go 3 (by omega)⟩
    have b104 : (ip = true → c ≠ 63) → L0 g (d + 7) m10_readNode (retV Q) 104 [some (LR 10 608), some (LI c), none, none, none] h1 := by
      intro h63
      refine v10_readNode_104 (fun _ => ?_)
      rw [M1.2.2.2.1]
      exact bz (fun z => b209 (fun w => absurd w z)) (fun hip => ⟨fun c46 => ov (Or.inl c46) hip, fun c46 => ⟨fun c33 => b209 (fun _ => ⟨h63 hip, c46, c33⟩), fun c33 => ov (Or.inr c33) hip⟩⟩)
    rw [M1.2.2.2.1]
    refine bz (fun z => b104 (fun w => absurd w z)) (fun hip => ⟨fun c63 => b104 (fun _ => c63), fun c63 => ?_⟩)
    rw [if_pos ⟨hip, c63⟩] at C
    have c9 := hc9 (by omega)
    refine m_readHole ok me mx ol hmo lm (by omega) os q0 c9.2.1 M1 (fun c4 => ?_) (fun c4 => ?_)
    · rwa [if_pos c4] at C
    · rwa [if_neg (fun z => z c4)] at C
  · rw [if_pos c1] at C
    have c9 := hc9 (by omega)
    have b2 := bl_p (B := B) (n := n) (p := q + 1)
    have b2' := b2.2.1 (by omega)
    rw [w32_id (by omega) (by omega)]
    refine g10_readLetter (fun _ => v10_readLetter ?_)
    rw [(M1.1.me me).2.1, M1.2.2.2.2.1]
    refine ⟨fun c3 => m_newNode (x := mkN 0 (-1) 0 (-1) 0 0 0 (E 3 (c - 97)) (E 4 (c - 97)) (E 2 (c - 97))) hmo lm q0 (by omega) M1 rfl rfl rfl rfl rfl rfl (fun c4 h2 M2 _ => m_fine ?_) (fun c4 h2 F2 _ => m_fine ?_), fun c3 => m_wrong (fun _ h2 k2 => ?_) (fun z => absurd M1.2.2.2.2.2.1 z)⟩
    · rw [M2.2.2.2.2.2.1]
      refine bn (fun _ => ⟨l0, by omega, fun h9 k9 h10 k10 => ?_⟩) (fun z => absurd rfl z)
      rw [if_neg (fun z => z c3), if_neg (fun z => z c4)] at C
      have ml := mNd_last M2.2.1
      have M9 : MSt h0 ip mo (L ++ [hdN E (c - 97)]) q s (fup en (ln L) (h2 622 (ln L))) h9 := by
        refine M2.nd (mNd_set M2.2.1 (by rw [k9, hup_ne (by decide)]) (fun a i c1 c2 c3 => by rw [k9, hup_nj c3]) ?_ (by rw [k9, hup_at]; rfl) ?_ ?_ ?_ ?_ (fun z => absurd z (by show ¬ (0 : Int) = 1; decide))) (by rw [ln_app, ln_app]; rfl) (by rw [k9]; exact M2.1.r (by decide)) (fun j _ _ _ => by rw [k9, hup_ne (by decide)]) (by rw [k9, hup_ne (by decide)]; exact M2.2.2.2.2.1) (by rw [k9, hup_ne (by decide)]; exact M2.2.2.2.2.2.1) (fun a c1 c2 => by rw [k9, hup_r (by omega)])
        · rw [k9, hup_ne (by decide)]; exact ml.1
        · rw [k9, hup_ne (by decide), ml.2.2.1]; rfl
        · rw [k9, hup_ne (by decide)]; exact ml.2.2.2.1
        · rw [k9, hup_ne (by decide)]; exact ml.2.2.2.2.1
        · rw [k9, hup_ne (by decide)]; exact ml.2.2.2.2.2
      rw [M9.2.2.2.2.1, w32_id (by omega) (by omega)] at k10
      have M10 := M9.ps k10
      refine m_blanks (M10.1.mx mx) M10.2.2.2.2.1 (by omega) (fun h11 k11 => ?_)
      have M11 := M10.ps k11
      have E11 := M11.1.me me
      have hp := ok.2.2.2.2.2 (c - 97) (by omega) c3
      refine m_here (M11.1.mx mx) M11.2.2.2.2.1 (by omega) ?_
      rw [(E11.2.2.2 _ (by omega) c3).2.1]
      refine ⟨fun c5 => ⟨by omega, by omega, fun c6 => ?_, fun c6 => ?_⟩, fun c5 => ⟨by omega, by omega, fun c6 => ?_, fun c6 => ?_⟩⟩
      · rw [if_neg c5, if_neg (by omega)] at C
        exact m_end1 ok me mx ol (okN_hd ok (by omega) c3) (by omega) (by omega) os (by omega) b2' M11 (by rw [fup_fup, bl_bl]; exact C)
      · rw [if_neg c5, if_pos (by omega)] at C
        rw [M11.2.2.2.2.1]
        exact m_wrong (fun _ h12 k12 => C h12 (M11.mf (by omega) (by omega) (by decide) k12)) (fun z => absurd M11.2.2.2.2.2.1 z)
      · rw [if_pos c5, if_pos (by omega)] at C
        rw [M11.2.2.2.2.1]
        exact m_wrong (fun _ h12 k12 => C h12 (M11.mf (by omega) (by omega) (by decide) k12)) (fun z => absurd M11.2.2.2.2.2.1 z)
      · rw [if_pos c5, if_neg (fun z => z (by omega))] at C
        have c8 := byt_in (B := B) (n := n) (i := bl B n (q + 1)) (by omega)
        refine m_deeper (by omega) (by omega) hs M11 (fun c7 h25 M25 h27 k27 => ?_) (fun c7 h25 F25 z25 y25 h27 k27 => ?_)
        · rw [if_neg (by omega)] at C
          obtain ⟨N1, N2, N3, N4, N5, N6, N7, N8, N9, N10⟩ := M25
          rw [N5, w32_id (by omega) (by omega)] at k27
          subst k27
          refine m_push ⟨N1.f (by decide), N2.to (hup_nj (by decide)) (fun a _ _ => hup_r (by omega)), by rw [hup_nj (by decide)]; exact N3, by rw [hup_nj (by decide)]; exact N4, hup_at, by rw [hup_nj (by decide)]; exact N6, by rw [hup_nj (by decide)]; exact N7, by rw [hup_nj (by decide)]; exact N8, N9.to (fun i _ => ⟨hup_ne (by decide), hup_ne (by decide)⟩), fun i i0 i1 => by rw [hup_ne (by decide)]; exact N10 i i0 i1⟩ (by omega) (fun h' M' => C _ h' M')
        · rw [if_pos c7] at C
          have a0 := F25.2.2.2.2.1
          have a1 := F25.2.2.2.2.2
          rw [w32_id (by omega) (by omega)] at k27
          have P27 : h27 608 27 = (s.length : Nat) := by rw [k27, hup_nj (by decide), z25]
          refine g10_push (fun _ => v10_push ?_)
          rw [P27]
          refine ⟨by omega, by omega, fun h28 k28 => ?_⟩
          have P28 : h28 608 27 = (s.length : Nat) := by rw [k28, hup_ne (by decide), P27]
          rw [P28]
          refine ⟨by omega, by omega, fun h29 k29 h30 k30 => ?_⟩
          exact C h30 ((((F25.ps k27 (by omega) (by omega)).r (by decide) k28).r (by decide) k29).fd (Or.inr (Or.inr (Or.inl rfl))) k30)
    · rw [F2.2.1]
      rw [if_neg (fun z => z c3), if_pos c4] at C
      exact bn (fun z => absurd z (by decide)) (fun _ => C h2 F2)
    · rw [if_pos c3] at C
      exact C h2 (M1.mf q0 (by omega) (by decide) k2)
end
