/-! MATCHING, the class: leaves -/
def cAn (w : Int) (s : St) (h : Hp) : Prop := h w 1 = (s.2.2.2.length : Nat) ∧ h w 2 = s.1 ∧ h w 3 = s.2.1 ∧ h w 4 = s.2.2.1 ∧ ∀ i : Nat, i < s.2.2.2.length → ∀ k : Int, 0 ≤ k → k < 10 → h (w + 1) (10 * i + k) = (s.2.2.2.getD i (fun _ => 0)) k
theorem cAn.to {w : Int} {s : St} {h h' : Hp} (H : cAn w s h) (e0 : h' w = h w) (e1 : h' (w + 1) = h (w + 1)) : cAn w s h' := by
  unfold cAn at *
  rw [e0, e1]
  exact H
section
variable {g : Gl} {d : Nat} {h : Hp} {w : Int} {s : St} {fill : Fl}
theorem f_nodeOf {Q : Int → Hp → Prop} (hw : 4 ≤ w) (lw : lnn g (w + 1) = 300) {i k : Int} (i0 : 0 ≤ i) (i1 : i < 30) (k0 : 0 ≤ k) (k1 : k < 10) (q : Q (h (w + 1) (10 * i + k)) h) : Good g (d + 1) i0_nodeOf [LR 0 w, LI i, LI k] S0 h S0 (retI Q) := by
  refine g0_nodeOf (fun _ _ _ => v0_nodeOf hw ?_)
  rw [w32_id (x := i * 10) (by omega) (by omega), w32_id (x := i * 10 + k) (by omega) (by omega), lw, show i * 10 + k = 10 * i + k by omega]
  exact ⟨by omega, by omega, q⟩
theorem f_holds {Q : Int → Hp → Prop} (hw : 4 ≤ w) (lw : lnn g (w + 1) = 300) (A : cAn w s h) (os : okSt s) (hf : ∀ k : Int, 0 ≤ k → k < 10 → h 599 k = fill k) (q : Q (cb (∃ f ∈ s.2.2.2, feq f fill)) h) : Good g (d + 2) i0_holds [LR 0 w, LR 20 599] S0 h S0 (retI Q) := by
  have l30 := os.2.2.2.2
  have get : ∀ i : Nat, (hi : i < s.2.2.2.length) → s.2.2.2.getD i (fun _ => 0) ∈ s.2.2.2 := fun i hi => by
    rw [List.getD_eq_getElem?_getD, List.getElem?_eq_getElem hi]
    exact List.getElem_mem _
  have outer : ∀ (m y : Nat), y + m = s.2.2.2.length → (∀ i : Nat, i < y → ¬ feq (s.2.2.2.getD i (fun _ => 0)) fill) → L0 g (d + 1) m0_holds (retI Q) 2 [some (LR 0 w), some (LR 20 599), some (LI y), none] h := by
    intro m
    induction m with
    | zero =>
      intro y hy no
      refine v0_holds_2 hw ?_
      rw [A.1]
      refine ⟨fun _ => ?_, fun z => absurd (by omega) z⟩
      have nn : ¬ ∃ f ∈ s.2.2.2, feq f fill := by
        rintro ⟨f, hf1, hf2⟩
        obtain ⟨i, hi, e⟩ := List.mem_iff_getElem.mp hf1
        refine no i (by omega) ?_
        rw [List.getD_eq_getElem?_getD, List.getElem?_eq_getElem hi]
        show feq s.2.2.2[i] fill
        rw [e]
        exact hf2
      rwa [cb_f nn] at q
    | succ m ih =>
      intro y hy no
      refine v0_holds_2 hw ?_
      rw [A.1]
      refine ⟨fun z => absurd z (by omega), fun _ => ?_⟩
      have inner : ∀ (m2 : Nat) (k : Int), 0 ≤ k → k + m2 = 10 → (∀ j : Int, 0 ≤ j → j < k → (s.2.2.2.getD y (fun _ => 0)) j = fill j) → L0 g (d + 1) m0_holds (retI Q) 12 [some (LR 0 w), some (LR 20 599), some (LI y), some (LI k)] h := by
        intro m2
        induction m2 with
        | zero =>
          intro k k0 hk eq
          refine v0_holds_12 hw ⟨fun _ => ⟨fun z => absurd (by omega) z, fun _ => ?_⟩, fun z => absurd (by omega) z⟩
          rwa [cb_t ⟨_, get y (by omega), fun j j0 j1 => eq j j0 (by omega)⟩] at q
        | succ m2 ih2 =>
          intro k k0 hk eq
          refine v0_holds_12 hw ⟨fun z => absurd z (by omega), fun _ => f_nodeOf hw lw (by omega) (by omega) k0 (by omega) ?_⟩
          rw [A.2.2.2.2 y (by omega) k k0 (by omega), hf k k0 (by omega), w32_id (x := (y : Int) + 1) (by omega) (by omega), w32_id (x := k + 1) (by omega) (by omega)]
          refine ⟨k0, by omega, fun c => ⟨fun _ => ih (y + 1) (by omega) (fun i hi => ?_), fun z => absurd z (by omega)⟩, fun c => ih2 (k + 1) (by omega) (by omega) (fun j j0 j1 => ?_)⟩
          · by_cases ci : i = y
            · subst ci
              exact fun z => c (z k k0 (by omega))
            · exact no i (by omega)
          · by_cases cj : j = k
            · subst cj; exact c
            · exact eq j j0 (by omega)
      exact inner 10 0 (by decide) (by decide) (fun j j0 j1 => by omega)
  exact g0_holds (fun _ => v0_holds hw (outer s.2.2.2.length 0 (by omega) (fun i hi => by omega)))
theorem f_keep {Q : Hp → Prop} (hw : 4 ≤ w) (lw : lnn g (w + 1) = 300) (wn : w ≠ 599 ∧ w + 1 ≠ 599) (A : cAn w s h) (os : okSt s) (hf : ∀ k : Int, 0 ≤ k → k < 10 → h 599 k = fill k) (q : ∀ h' : Hp, cAn w (kpW fill s) h' → (∀ a : Int, a ≠ w → a ≠ w + 1 → h' a = h a) → (∀ j : Int, j ≠ 1 → j ≠ 4 → h' w j = h w j) → Q h') : Good g (d + 3) i0_keep [LR 0 w, LR 20 599] S0 h S0 (retV Q) := by
  have l30 := os.2.2.2.2
  refine g0_keep (fun _ => v0_keep hw (f_holds hw lw A os hf ?_))
  unfold kpW at q
  refine bz (fun c => ?_) (fun c => ?_)
  · rw [if_neg c] at q
    rw [A.1]
    refine ⟨fun c2 => ?_, fun c2 h8 k8 => ?_⟩
    · rw [if_neg (by omega)] at q
      rw [w32_id (by omega) (by omega), lw]
      refine ⟨by omega, by omega, fun h6 k6 h7 k7 => ?_⟩
      have r6 : ∀ a j : Int, a ≠ w + 1 → h6 a j = h a j := fun a j ha => by rw [k6]; unfold hcpy; rw [if_neg (fun z => ha z.1)]
      rw [r6 w 1 (by omega), A.1, w32_id (by omega) (by omega)] at k7
      refine q h7 ⟨?_, ?_, ?_, ?_, fun i hi k k0 k1 => ?_⟩ (fun a c3 c4 => ?_) (fun j c3 c4 => ?_)
      · rw [k7, hup_at]; simp
      · rw [k7, hup_nj (by decide), r6 w 2 (by omega)]; exact A.2.1
      · rw [k7, hup_nj (by decide), r6 w 3 (by omega)]; exact A.2.2.1
      · rw [k7, hup_nj (by decide), r6 w 4 (by omega)]; exact A.2.2.2.1
      · rw [k7, hup_ne (by omega), k6]
        unfold hcpy
        simp only [List.length_append, List.length_cons, List.length_nil] at hi
        rw [List.getD_eq_getElem?_getD]
        by_cases ci : i = s.2.2.2.length
        · rw [if_pos ⟨rfl, by omega, by omega⟩, ci, show (0 : Int) + (10 * ((s.2.2.2.length : Nat) : Int) + k - ((s.2.2.2.length : Nat) : Int) * 10) = k by omega, hf k k0 k1, List.getElem?_append_right (by omega)]
          simp
        · rw [if_neg (by omega), A.2.2.2.2 i (by omega) k k0 k1, List.getD_eq_getElem?_getD, List.getElem?_append_left (by omega)]
      · funext j
        rw [k7, hup_ne c3, r6 a j c4]
      · rw [k7, hup_nj c3, r6 w j (by omega)]
    · rw [if_pos (by omega)] at q
      refine q h8 ⟨?_, ?_, ?_, ?_, fun i hi k k0 k1 => ?_⟩ (fun a c3 c4 => by rw [k8, hup_r c3]) (fun j c3 c4 => by rw [k8, hup_nj c4])
      · rw [k8, hup_nj (by decide)]; exact A.1
      · rw [k8, hup_nj (by decide)]; exact A.2.1
      · rw [k8, hup_nj (by decide)]; exact A.2.2.1
      · rw [k8, hup_at]
      · rw [k8, hup_ne (by omega)]; exact A.2.2.2.2 i hi k k0 k1
  · rw [if_pos c] at q
    exact q h A (fun _ _ _ => rfl) (fun _ _ _ => rfl)
end
/-- a row of pairs in the chain, from a link on, below q -/
def lst (h : Hp) (q : Int) : List (Int × Int) → Bool → Int → Prop
  | [], inn, l => l = if inn = true then -2 else -1
  | e :: c, inn, l => 0 ≤ l ∧ l < q ∧ h 600 l = e.1 ∧ h 601 l = e.2 ∧ lst h q c inn (h 602 l)
theorem lst.to {h h' : Hp} {q q' : Int} : ∀ {c : List (Int × Int)} {inn : Bool} {l : Int}, lst h q c inn l → q ≤ q' → (∀ i : Int, 0 ≤ i → i < q → h' 600 i = h 600 i ∧ h' 601 i = h 601 i ∧ h' 602 i = h 602 i) → lst h' q' c inn l
  | [], _, _, H, _, _ => H
  | e :: c, inn, l, H, hq, e1 => by
    have := e1 l H.1 H.2.1
    exact ⟨H.1, by have := H.2.1; omega, by rw [this.1]; exact H.2.2.1, by rw [this.2.1]; exact H.2.2.2.1, by rw [this.2.2]; exact lst.to H.2.2.2.2 hq e1⟩
/-- the matcher's state: h0 what stays, pn the pattern's nodes, w the answer, q how much of the chain is used -/
def WS (h0 : Hp) (pn w : Int) (fo : Bool) (q : Int) (fill : Fl) (s : St) (h : Hp) : Prop := (∀ a : Int, ¬ (598 ≤ a ∧ a ≤ 602) → a ≠ w → a ≠ w + 1 → h a = h0 a) ∧ h 598 7 = pn ∧ h 598 8 = w ∧ h 598 9 = cb (fo = true) ∧ h 598 6 = q ∧ (∀ k : Int, 0 ≤ k → k < 10 → h 599 k = fill k) ∧ cAn w s h
/-- the chain below q as it was -/
def chS (h h' : Hp) (q : Int) : Prop := ∀ i : Int, 0 ≤ i → i < q → h' 600 i = h 600 i ∧ h' 601 i = h 601 i ∧ h' 602 i = h 602 i
theorem chS.rf (h : Hp) (q : Int) : chS h h q := fun _ _ _ => ⟨rfl, rfl, rfl⟩
theorem chS.tr {h h1 h2 : Hp} {q q' : Int} (a : chS h h1 q) (b : chS h1 h2 q') (hq : q ≤ q') : chS h h2 q := fun i i0 i1 => by
  have x := a i i0 i1
  have y := b i i0 (by omega)
  exact ⟨y.1.trans x.1, y.2.1.trans x.2.1, y.2.2.trans x.2.2⟩
section
variable {g : Gl} {d : Nat} {h h0 : Hp} {pn w q : Int} {fo : Bool} {fill : Fl} {s : St} {Q : Int → Hp → Prop}
theorem f_chain {p t nx : Int} (w9 : w + 1 < 598 ∧ 4 ≤ w) (S : WS h0 pn w fo q fill s h) (q0 : 0 ≤ q) (q1 : q < 24) (k : ∀ h' : Hp, WS h0 pn w fo (q + 1) fill s h' → chS h h' q → h' 600 q = p → h' 601 q = t → h' 602 q = nx → Q q h') : Good g (d + 1) i3_chain [LR 3 598, LI p, LI t, LI nx] S0 h S0 (retI Q) := by
  obtain ⟨F, e7, e8, e9, e6, ff, A⟩ := S
  refine g3_chain (fun _ _ _ => v3_chain ?_)
  rw [e6]
  refine ⟨fun _ => ⟨q0, fun h2 k2 => ?_⟩, fun z => absurd q1 z⟩
  have a2 : h2 598 6 = q := by rw [k2, hup_ne (by decide), e6]
  rw [a2]
  refine ⟨q0, q1, fun h3 k3 => ?_⟩
  have a3 : h3 598 6 = q := by rw [k3, hup_ne (by decide), a2]
  rw [a3]
  refine ⟨q0, q1, fun h4 k4 h5 k5 => ?_⟩
  have a4 : h4 598 6 = q := by rw [k4, hup_ne (by decide), a3]
  rw [a4, w32_id (by omega) (by omega)] at k5
  have r5 : ∀ a : Int, ¬ (600 ≤ a ∧ a ≤ 602) → a ≠ 598 → h5 a = h a := fun a c1 c2 => by rw [k5, hup_r c2, k4, hup_r (by omega), k3, hup_r (by omega), k2, hup_r (by omega)]
  have f5 : ∀ j : Int, j ≠ 6 → h5 598 j = h 598 j := fun j hj => by rw [k5, hup_nj hj, k4, hup_ne (by decide), k3, hup_ne (by decide), k2, hup_ne (by decide)]
  have e5 : h5 598 6 = q + 1 := by rw [k5, hup_at]
  rw [e5, show q + 1 - 1 = q by omega, w32_id (by omega) (by omega)]
  refine k h5 ⟨fun a c1 c2 c3 => by rw [r5 a (by omega) (by omega)]; exact F a c1 c2 c3, by rw [f5 7 (by decide)]; exact e7, by rw [f5 8 (by decide)]; exact e8, by rw [f5 9 (by decide)]; exact e9, e5, fun j j0 j1 => by rw [r5 599 (by decide) (by decide)]; exact ff j j0 j1, A.to (r5 w (by omega) (by omega)) (r5 (w + 1) (by omega) (by omega))⟩ (fun i i0 i1 => ⟨?_, ?_, ?_⟩) ?_ ?_ ?_
  · rw [k5, hup_ne (by decide), k4, hup_ne (by decide), k3, hup_ne (by decide), k2, hup_nj (by omega)]
  · rw [k5, hup_ne (by decide), k4, hup_ne (by decide), k3, hup_nj (by omega), k2, hup_ne (by decide)]
  · rw [k5, hup_ne (by decide), k4, hup_nj (by omega), k3, hup_ne (by decide), k2, hup_ne (by decide)]
  · rw [k5, hup_ne (by decide), k4, hup_ne (by decide), k3, hup_ne (by decide), k2, hup_at]
  · rw [k5, hup_ne (by decide), k4, hup_ne (by decide), k3, hup_at]
  · rw [k5, hup_ne (by decide), k4, hup_at]
theorem f_mayTry (w9 : w + 1 < 598 ∧ 4 ≤ w) (S : WS h0 pn w fo q fill s h) (os : okSt s) (k1 : ¬ 2000 ≤ s.1 → ∀ h' : Hp, WS h0 pn w fo q fill (s.1 + 1, s.2) h' → chS h h' q → Q 1 h') (k0 : 2000 ≤ s.1 → ∀ h' : Hp, WS h0 pn w fo q fill (s.1, 1, s.2.2) h' → chS h h' q → Q 0 h') : Good g (d + 1) i3_mayTry [LR 3 598] S0 h S0 (retI Q) := by
  obtain ⟨F, e7, e8, e9, e6, ff, A⟩ := S
  have o1 := os.1
  have o2 := os.2.1
  refine g3_mayTry (v3_mayTry ?_)
  rw [e8, A.2.1]
  refine ⟨by omega, fun c h2 x2 => ?_, fun c h3 x3 => ?_⟩
  · rw [w32_id (by omega) (by omega)] at x2
    have r2 : ∀ a : Int, a ≠ w → h2 a = h a := fun a ha => by rw [x2, hup_r ha]
    refine k1 (by omega) h2 ⟨fun a c1 c2 c3 => by rw [r2 a c2]; exact F a c1 c2 c3, by rw [r2 598 (by omega)]; exact e7, by rw [r2 598 (by omega)]; exact e8, by rw [r2 598 (by omega)]; exact e9, by rw [r2 598 (by omega)]; exact e6, fun j j0 j1 => by rw [r2 599 (by omega)]; exact ff j j0 j1, ⟨by rw [x2, hup_nj (by decide)]; exact A.1, by rw [x2, hup_at], by rw [x2, hup_nj (by decide)]; exact A.2.2.1, by rw [x2, hup_nj (by decide)]; exact A.2.2.2.1, fun i hi j j0 j1 => by rw [r2 (w + 1) (by omega)]; exact A.2.2.2.2 i hi j j0 j1⟩⟩ (fun i _ _ => ⟨by rw [r2 600 (by omega)], by rw [r2 601 (by omega)], by rw [r2 602 (by omega)]⟩)
  · have r2 : ∀ a : Int, a ≠ w → h3 a = h a := fun a ha => by rw [x3, hup_r ha]
    refine k0 (by omega) h3 ⟨fun a c1 c2 c3 => by rw [r2 a c2]; exact F a c1 c2 c3, by rw [r2 598 (by omega)]; exact e7, by rw [r2 598 (by omega)]; exact e8, by rw [r2 598 (by omega)]; exact e9, by rw [r2 598 (by omega)]; exact e6, fun j j0 j1 => by rw [r2 599 (by omega)]; exact ff j j0 j1, ⟨by rw [x3, hup_nj (by decide)]; exact A.1, by rw [x3, hup_nj (by decide)]; exact A.2.1, by rw [x3, hup_at], by rw [x3, hup_nj (by decide)]; exact A.2.2.2.1, fun i hi j j0 j1 => by rw [r2 (w + 1) (by omega)]; exact A.2.2.2.2 i hi j j0 j1⟩⟩ (fun i _ _ => ⟨by rw [r2 600 (by omega)], by rw [r2 601 (by omega)], by rw [r2 602 (by omega)]⟩)
theorem f_keepFilling (w9 : w + 1 < 598 ∧ 4 ≤ w) (lw : lnn g (w + 1) = 300) (S : WS h0 pn w fo q fill s h) (os : okSt s) (k : ∀ h' : Hp, WS h0 pn w fo q fill (kpW fill s) h' → chS h h' q → Q (cb ((fo || decide ((kpW fill s).2.2.1 = 1)) = true)) h') : Good g (d + 4) i3_keepFilling [LR 3 598] S0 h S0 (retI Q) := by
  obtain ⟨F, e7, e8, e9, e6, ff, A⟩ := S
  refine g3_keepFilling (v3_keepFilling ?_)
  rw [e8]
  refine ⟨by omega, f_keep w9.2 lw ⟨by omega, by omega⟩ A os ff (fun h1 A1 F1 G1 _ => ?_)⟩
  have S1 : WS h0 pn w fo q fill (kpW fill s) h1 := ⟨fun a c1 c2 c3 => by rw [F1 a c2 c3]; exact F a c1 c2 c3, by rw [F1 598 (by omega) (by omega)]; exact e7, by rw [F1 598 (by omega) (by omega)]; exact e8, by rw [F1 598 (by omega) (by omega)]; exact e9, by rw [F1 598 (by omega) (by omega)]; exact e6, fun j j0 j1 => by rw [F1 599 (by omega) (by omega)]; exact ff j j0 j1, A1⟩
  have k := k h1 S1 (fun i _ _ => ⟨by rw [F1 600 (by omega) (by omega)], by rw [F1 601 (by omega) (by omega)], by rw [F1 602 (by omega) (by omega)]⟩)
  rw [S1.2.2.2.1, S1.2.2.1, A1.2.2.2.1]
  have om := (okSt_kp (fill := fill) os).2.2.2.1
  refine bn (fun c => ?_) (fun c => ⟨by omega, fun _ => ⟨fun c2 => ?_, fun c2 => ?_⟩⟩)
  · rwa [cb_t (by simp [c])] at k
  · rwa [cb_f (by simp [c]; omega)] at k
  · rwa [cb_t (by simp [c]; omega)] at k
end
