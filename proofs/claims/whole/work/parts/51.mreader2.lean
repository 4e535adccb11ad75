/-! THE MODEL'S READER: nodes, what is open, what ends -/
def mNd (L : NL) (h : Hp) : Prop := h 608 17 = ln L ∧ ∀ i : Int, 0 ≤ i → i < ln L → h 614 i = nd L i 0 ∧ h 615 i = nd L i 1 ∧ h 616 i = (if nd L i 0 = 1 then nd L i 5 else 0) ∧ h 617 i = nd L i 3 ∧ h 618 i = nd L i 2 ∧ h 619 i = nd L i 4 ∧ (nd L i 4 = 1 → h 620 i = nd L i 5 ∧ h 621 i = nd L i 6)
theorem mNd.to {L : NL} {h h' : Hp} (H : mNd L h) (e0 : h' 608 17 = h 608 17) (e : ∀ a : Int, 614 ≤ a → a ≤ 621 → h' a = h a) : mNd L h' := by
  unfold mNd at *
  rw [e0, e 614 (by decide) (by decide), e 615 (by decide) (by decide), e 616 (by decide) (by decide), e 617 (by decide) (by decide), e 618 (by decide) (by decide), e 619 (by decide) (by decide), e 620 (by decide) (by decide), e 621 (by decide) (by decide)]
  exact H
/-- a node more -/
theorem mNd_app {L : NL} {x : Nd} {h h' : Hp} (H : ∀ i : Int, 0 ≤ i → i < ln L → h 614 i = nd L i 0 ∧ h 615 i = nd L i 1 ∧ h 616 i = (if nd L i 0 = 1 then nd L i 5 else 0) ∧ h 617 i = nd L i 3 ∧ h 618 i = nd L i 2 ∧ h 619 i = nd L i 4 ∧ (nd L i 4 = 1 → h 620 i = nd L i 5 ∧ h 621 i = nd L i 6)) (e0 : h' 608 17 = ln L + 1) (e : ∀ a i : Int, 614 ≤ a → a ≤ 621 → i ≠ ln L → h' a i = h a i) (x0 : h' 614 (ln L) = x 0) (x1 : h' 615 (ln L) = x 1) (x2 : h' 616 (ln L) = if x 0 = 1 then x 5 else 0) (x3 : h' 617 (ln L) = x 3) (x4 : h' 618 (ln L) = x 2) (x5 : h' 619 (ln L) = x 4) (x6 : x 4 = 1 → h' 620 (ln L) = x 5 ∧ h' 621 (ln L) = x 6) : mNd (L ++ [x]) h' := by
  refine ⟨by rw [e0, ln_app, ln_1], fun i i0 i1 => ?_⟩
  rw [ln_app, ln_1] at i1
  by_cases c : i < ln L
  · rw [nd_app0 i0 c]
    have ne : i ≠ ln L := by omega
    rw [e 614 i (by decide) (by decide) ne, e 615 i (by decide) (by decide) ne, e 616 i (by decide) (by decide) ne, e 617 i (by decide) (by decide) ne, e 618 i (by decide) (by decide) ne, e 619 i (by decide) (by decide) ne, e 620 i (by decide) (by decide) ne, e 621 i (by decide) (by decide) ne]
    exact H i i0 c
  · have c : i = ln L := by omega
    subst c
    rw [nd_app1]
    exact ⟨x0, x1, x2, x3, x4, x5, x6⟩
/-- nodes that are open: their numbers, how many parts are done; the latest first -/
abbrev Stk : Type := List (Int × Int)
def stk : Stk → Hp → Prop
  | [], _ => True
  | e :: s, h => h 623 (s.length : Nat) = e.1 ∧ h 624 (s.length : Nat) = e.2 ∧ stk s h
theorem stk.to : ∀ {s : Stk} {h h' : Hp}, stk s h → (∀ i : Int, i < (s.length : Nat) → h' 623 i = h 623 i ∧ h' 624 i = h 624 i) → stk s h'
  | [], _, _, _, _ => trivial
  | e :: s, h, h', H, hh => by
    have h1 := hh (s.length : Nat) (by simp; omega)
    exact ⟨by rw [h1.1]; exact H.1, by rw [h1.2]; exact H.2.1, stk.to H.2.2 (fun i hi => hh i (by simp; omega))⟩
def okS (E : Ev) (L : NL) (s : Stk) : Prop := ∀ e ∈ s, 0 ≤ e.1 ∧ e.1 < ln L ∧ 0 ≤ e.2 ∧ (nd L e.1 0 = 0 → e.2 < nd L e.1 7)
def fup (f : Int → Int) (i v : Int) : Int → Int := fun j => if j = i then v else f j
theorem fup_at {f : Int → Int} {i v : Int} : fup f i v i = v := by unfold fup; rw [if_pos rfl]
theorem fup_ne {f : Int → Int} {i j v : Int} (h : j ≠ i) : fup f i v j = f j := by unfold fup; rw [if_neg h]
def MSt (h0 : Hp) (ip : Bool) (mo : Int) (L : NL) (p : Int) (s : Stk) (en : Int → Int) (h : Hp) : Prop := MBs h0 h ∧ mNd L h ∧ h 608 18 = mo ∧ h 608 19 = cb (ip = true) ∧ h 608 20 = p ∧ h 608 21 = 0 ∧ h 608 24 = (s.length : Nat) ∧ h 608 27 = (s.length : Nat) ∧ stk s h ∧ ∀ i : Int, 0 ≤ i → i < ln L → h 622 i = en i
def MFt (h0 : Hp) (f p : Int) (h : Hp) : Prop := MBs h0 h ∧ h 608 21 = f ∧ h 608 22 = p ∧ f ≠ 0 ∧ 0 ≤ h 608 20 ∧ h 608 20 ≤ 1010
theorem MSt.ps {h0 : Hp} {ip : Bool} {mo : Int} {L : NL} {p : Int} {s : Stk} {en : Int → Int} {h : Hp} (M : MSt h0 ip mo L p s en h) {h' : Hp} {q : Int} (e : h' = hup h 608 20 q) : MSt h0 ip mo L q s en h' := by
  subst e
  exact ⟨M.1.f (by decide), M.2.1.to (hup_nj (by decide)) (fun a _ _ => hup_r (by omega)), by rw [hup_nj (by decide)]; exact M.2.2.1, by rw [hup_nj (by decide)]; exact M.2.2.2.1, hup_at, by rw [hup_nj (by decide)]; exact M.2.2.2.2.2.1, by rw [hup_nj (by decide)]; exact M.2.2.2.2.2.2.1, by rw [hup_nj (by decide)]; exact M.2.2.2.2.2.2.2.1, M.2.2.2.2.2.2.2.2.1.to (fun i _ => ⟨hup_ne (by decide), hup_ne (by decide)⟩), fun i i0 i1 => by rw [hup_ne (by decide)]; exact M.2.2.2.2.2.2.2.2.2 i i0 i1⟩
theorem MSt.wt {h0 : Hp} {ip : Bool} {mo : Int} {L : NL} {p : Int} {s : Stk} {en : Int → Int} {h : Hp} (M : MSt h0 ip mo L p s en h) {h' : Hp} {q : Int} (e : h' = hup h 608 28 q) : MSt h0 ip mo L p s en h' := by
  subst e
  exact ⟨M.1.f (by decide), M.2.1.to (hup_nj (by decide)) (fun a _ _ => hup_r (by omega)), by rw [hup_nj (by decide)]; exact M.2.2.1, by rw [hup_nj (by decide)]; exact M.2.2.2.1, by rw [hup_nj (by decide)]; exact M.2.2.2.2.1, by rw [hup_nj (by decide)]; exact M.2.2.2.2.2.1, by rw [hup_nj (by decide)]; exact M.2.2.2.2.2.2.1, by rw [hup_nj (by decide)]; exact M.2.2.2.2.2.2.2.1, M.2.2.2.2.2.2.2.2.1.to (fun i _ => ⟨hup_ne (by decide), hup_ne (by decide)⟩), fun i i0 i1 => by rw [hup_ne (by decide)]; exact M.2.2.2.2.2.2.2.2.2 i i0 i1⟩
theorem MSt.ne {h0 : Hp} {ip : Bool} {mo : Int} {L : NL} {p : Int} {s : Stk} {en : Int → Int} {h : Hp} (M : MSt h0 ip mo L p s en h) {h' : Hp} {x v : Int} (e : h' = hup h 622 x v) : MSt h0 ip mo L p s (fup en x v) h' := by
  subst e
  refine ⟨M.1.r (by decide), M.2.1.to (hup_ne (by decide)) (fun a _ _ => hup_r (by omega)), by rw [hup_ne (by decide)]; exact M.2.2.1, by rw [hup_ne (by decide)]; exact M.2.2.2.1, by rw [hup_ne (by decide)]; exact M.2.2.2.2.1, by rw [hup_ne (by decide)]; exact M.2.2.2.2.2.1, by rw [hup_ne (by decide)]; exact M.2.2.2.2.2.2.1, by rw [hup_ne (by decide)]; exact M.2.2.2.2.2.2.2.1, M.2.2.2.2.2.2.2.2.1.to (fun i _ => ⟨hup_ne (by decide), hup_ne (by decide)⟩), fun i i0 i1 => ?_⟩
  by_cases c : i = x
  · subst c
    rw [hup_at, fup_at]
  · rw [hup_nj c, fup_ne c]
    exact M.2.2.2.2.2.2.2.2.2 i i0 i1
theorem MSt.mf {h0 : Hp} {ip : Bool} {mo : Int} {L : NL} {p : Int} {s : Stk} {en : Int → Int} {h : Hp} (M : MSt h0 ip mo L p s en h) (p0 : 0 ≤ p) (p1 : p ≤ 1000) {h' : Hp} {f q : Int} (hf : f ≠ 0) (e : h' = hup (hup h 608 21 f) 608 22 q) : MFt h0 f q h' := by
  subst e
  exact ⟨(M.1.f (by decide)).f (by decide), by rw [hup_nj (by decide), hup_at], hup_at, hf, by rw [hup_nj (by decide), hup_nj (by decide), M.2.2.2.2.1]; exact p0, by rw [hup_nj (by decide), hup_nj (by decide), M.2.2.2.2.1]; omega⟩
theorem MFt.ps {h0 h h' : Hp} {f p q : Int} (M : MFt h0 f p h) (e : h' = hup h 608 20 q) (q0 : 0 ≤ q) (q1 : q ≤ 1010) : MFt h0 f p h' := by
  subst e
  exact ⟨M.1.f (by decide), by rw [hup_nj (by decide)]; exact M.2.1, by rw [hup_nj (by decide)]; exact M.2.2.1, M.2.2.2.1, by rw [hup_at]; exact q0, by rw [hup_at]; exact q1⟩
theorem MFt.fd {h0 h h' : Hp} {f p j v : Int} (M : MFt h0 f p h) (hj : j = 24 ∨ j = 28 ∨ j = 27 ∨ j = 17) (e : h' = hup h 608 j v) : MFt h0 f p h' := by
  subst e
  exact ⟨M.1.f (by omega), by rw [hup_nj (by omega)]; exact M.2.1, by rw [hup_nj (by omega)]; exact M.2.2.1, M.2.2.2.1, by rw [hup_nj (by omega)]; exact M.2.2.2.2.1, by rw [hup_nj (by omega)]; exact M.2.2.2.2.2⟩
theorem MFt.r {h0 h h' : Hp} {f p a i v : Int} (M : MFt h0 f p h) (ha : 614 ≤ a ∧ a ≤ 624) (e : h' = hup h a i v) : MFt h0 f p h' := by
  subst e
  exact ⟨M.1.r ha, by rw [hup_ne (by omega)]; exact M.2.1, by rw [hup_ne (by omega)]; exact M.2.2.1, M.2.2.2.1, by rw [hup_ne (by omega)]; exact M.2.2.2.2.1, by rw [hup_ne (by omega)]; exact M.2.2.2.2.2⟩
/-- what is to hold once a node has ended: r the place behind it and behind blanks -/
def MCl (h0 : Hp) (B : Int → Int) (n : Int) (ip : Bool) (mo : Int) (Q : Hp → Prop) (L : NL) : Stk → Int → (Int → Int) → Prop
  | [], r, en => ∀ (h : Hp) (q : Int), 0 ≤ q → q ≤ n → bl B n q = r → MSt h0 ip mo L q [] en h → h 608 28 = 0 → Q h
  | e :: s, r, en => if nd L e.1 0 ≠ 0 then MCl h0 B n ip mo Q L s r (fup en e.1 (ln L))
    else if e.2 + 1 = nd L e.1 7 then (if byt B n r = 41 then MCl h0 B n ip mo Q L s (bl B n (r + 1)) (fup en e.1 (ln L)) else ∀ h : Hp, MFt h0 (if byt B n r = 44 then 6 else 1) r h → Q h)
    else (if byt B n r = 44 then ∀ h : Hp, MSt h0 ip mo L (r + 1) ((e.1, e.2 + 1) :: s) en h → Q h else ∀ h : Hp, MFt h0 (if byt B n r = 41 then 6 else 1) r h → Q h)
section
variable {g : Gl} {d : Nat} {h h0 : Hp} {E : Ev} {B : Int → Int} {n : Int} {ip : Bool} {mo : Int} {L : NL} {p : Int} {s : Stk} {en : Int → Int}
theorem m_newNode {Q : Int → Hp → Prop} {v : Int} {x : Nd} (hmo : mo ≤ 120) (lm : ln L ≤ mo) (p0 : 0 ≤ p) (p1 : p ≤ 1000) (M : MSt h0 ip mo L p s en h) (e0 : x 0 = v) (e1 : x 1 = -1) (e2 : x 2 = 0) (e3 : x 3 = -1) (e4 : x 4 = 0) (e5 : x 5 = 0)
    (q1 : ln L < mo → ∀ h' : Hp, MSt h0 ip mo (L ++ [x]) p s (fup en (ln L) (h' 622 (ln L))) h' → h' 608 28 = h 608 28 → Q (ln L) h') (q2 : ¬ ln L < mo → ∀ h' : Hp, MFt h0 4 p h' → h' 608 20 = p → Q 0 h') : Good g (d + 2) i10_newNode [LR 10 608, LI v] S0 h S0 (retI Q) := by
  have l0 := ln_nn L
  obtain ⟨M1, M2, M3, M4, M5, M6, M7, M8, M9, M10⟩ := M
  refine g10_newNode (fun _ => v10_newNode ?_)
  rw [M2.1, M3]
  refine ⟨fun c => ⟨l0, by omega, fun h2 k2 h3 k3 h4 k4 h5 k5 h6 k6 h7 k7 h8 k8 => ?_⟩, fun c => ?_⟩
  · have a7 : h7 608 17 = ln L := by rw [k7, hup_ne (by decide), k6, hup_ne (by decide), k5, hup_ne (by decide), k4, hup_ne (by decide), k3, hup_ne (by decide), k2, hup_ne (by decide), M2.1]
    rw [a7, w32_id (by omega) (by omega)] at k8
    have B7 : MBs h0 h7 := by
      rw [k7, k6, k5, k4, k3, k2]
      exact (((((M1.r (by decide)).r (by decide)).r (by decide)).r (by decide)).r (by decide)).r (by decide)
    have B8 : MBs h0 h8 := by
      rw [k8]
      exact B7.f (by decide)
    have rw8 : ∀ b : Int, b ≠ 608 → ¬ (614 ≤ b ∧ b ≤ 619) → h8 b = h b := fun b c1 c2 => by
      rw [k8, hup_r c1, k7, hup_r (by omega), k6, hup_r (by omega), k5, hup_r (by omega), k4, hup_r (by omega), k3, hup_r (by omega), k2, hup_r (by omega)]
    have f8 : ∀ j : Int, j ≠ 17 → h8 608 j = h 608 j := fun j hj => by
      rw [k8, hup_nj hj, k7, hup_ne (by decide), k6, hup_ne (by decide), k5, hup_ne (by decide), k4, hup_ne (by decide), k3, hup_ne (by decide), k2, hup_ne (by decide)]
    refine q1 (by omega) h8 ⟨B8, ?_, by rw [f8 18 (by decide)]; exact M3, by rw [f8 19 (by decide)]; exact M4, by rw [f8 20 (by decide)]; exact M5, by rw [f8 21 (by decide)]; exact M6, by rw [f8 24 (by decide)]; exact M7, by rw [f8 27 (by decide)]; exact M8, M9.to (fun i _ => ⟨by rw [rw8 623 (by decide) (by decide)], by rw [rw8 624 (by decide) (by decide)]⟩), fun i i0 i1 => ?_⟩ (f8 28 (by decide))
    · refine mNd_app M2.2 (by rw [k8, hup_at]) (fun a i c1 c2 hi => ?_) ?_ ?_ ?_ ?_ ?_ ?_ ?_
      · rw [k8, hup_ne (by omega), k7, hup_nj hi, k6, hup_nj hi, k5, hup_nj hi, k4, hup_nj hi, k3, hup_nj hi, k2, hup_nj hi]
      · rw [k8, hup_ne (by decide), k7, hup_ne (by decide), k6, hup_ne (by decide), k5, hup_ne (by decide), k4, hup_ne (by decide), k3, hup_ne (by decide), k2, hup_at, e0]
      · rw [k8, hup_ne (by decide), k7, hup_ne (by decide), k6, hup_ne (by decide), k5, hup_ne (by decide), k4, hup_ne (by decide), k3, hup_at, e1]
      · rw [k8, hup_ne (by decide), k7, hup_ne (by decide), k6, hup_ne (by decide), k5, hup_ne (by decide), k4, hup_at, e5]
        split <;> rfl
      · rw [k8, hup_ne (by decide), k7, hup_ne (by decide), k6, hup_ne (by decide), k5, hup_at, e3]
      · rw [k8, hup_ne (by decide), k7, hup_ne (by decide), k6, hup_at, e2]
      · rw [k8, hup_ne (by decide), k7, hup_at, e4]
      · exact fun z => absurd z (by omega)
    · rw [ln_app, ln_1] at i1
      by_cases ci : i = ln L
      · subst ci
        rw [fup_at]
      · rw [fup_ne ci, rw8 622 (by decide) (by decide)]
        exact M10 i i0 (by omega)
  · rw [M5]
    exact m_wrong (fun _ h' e' => q2 (by omega) h' (MSt.mf ⟨M1, M2, M3, M4, M5, M6, M7, M8, M9, M10⟩ p0 p1 (by decide) e') (by rw [e', hup_nj (by decide), hup_nj (by decide), M5])) (fun z => absurd M6 z)
theorem m_push {Q : Hp → Prop} {x : Int} (M : MBs h0 h ∧ mNd L h ∧ h 608 18 = mo ∧ h 608 19 = cb (ip = true) ∧ h 608 20 = p ∧ h 608 21 = 0 ∧ h 608 24 = ((s.length : Nat) : Int) + 1 ∧ h 608 27 = (s.length : Nat) ∧ stk s h ∧ ∀ i : Int, 0 ≤ i → i < ln L → h 622 i = en i) (hs : s.length < 100) (q : ∀ h' : Hp, MSt h0 ip mo L p ((x, 0) :: s) en h' → Q h') : Good g (d + 1) i10_push [LR 10 608, LI x] S0 h S0 (retV Q) := by
  obtain ⟨M1, M2, M3, M4, M5, M6, M7, M8, M9, M10⟩ := M
  refine g10_push (fun _ => v10_push ?_)
  rw [M8]
  refine ⟨by omega, by omega, fun h1 k1 => ?_⟩
  have a1 : h1 608 27 = (s.length : Nat) := by rw [k1, hup_ne (by decide), M8]
  rw [a1]
  refine ⟨by omega, by omega, fun h2 k2 h3 k3 => ?_⟩
  have a2 : h2 608 27 = (s.length : Nat) := by rw [k2, hup_ne (by decide), a1]
  rw [a2, w32_id (by omega) (by omega)] at k3
  have f3 : ∀ j : Int, j ≠ 27 → h3 608 j = h 608 j := fun j hj => by rw [k3, hup_nj hj, k2, hup_ne (by decide), k1, hup_ne (by decide)]
  have r3 : ∀ b : Int, b ≠ 608 → b ≠ 623 → b ≠ 624 → h3 b = h b := fun b c1 c2 c3 => by rw [k3, hup_r c1, k2, hup_r c3, k1, hup_r c2]
  refine q h3 ⟨?_, M2.to (f3 17 (by decide)) (fun a c1 c2 => r3 a (by omega) (by omega) (by omega)), by rw [f3 18 (by decide)]; exact M3, by rw [f3 19 (by decide)]; exact M4, by rw [f3 20 (by decide)]; exact M5, by rw [f3 21 (by decide)]; exact M6, by rw [f3 24 (by decide), M7]; simp, by rw [k3, hup_at]; simp, ⟨?_, ?_, M9.to (fun i hi => ⟨?_, ?_⟩)⟩, fun i i0 i1 => by rw [r3 622 (by decide) (by decide) (by decide)]; exact M10 i i0 i1⟩
  · rw [k3, k2, k1]
    exact ((M1.r (by decide)).r (by decide)).f (by decide)
  · rw [k3, hup_ne (by decide), k2, hup_ne (by decide), k1, hup_at]
  · rw [k3, hup_ne (by decide), k2, hup_at]
  · rw [k3, hup_ne (by decide), k2, hup_ne (by decide), k1, hup_nj (by omega)]
  · rw [k3, hup_ne (by decide), k2, hup_nj (by omega), k1, hup_ne (by decide)]
theorem m_deeper {Q : Hp → Prop} (p0 : 0 ≤ p) (p1 : p ≤ 1000) (hs : s.length ≤ 12) (M : MSt h0 ip mo L p s en h) (q1 : s.length < 12 → ∀ h' : Hp, (MBs h0 h' ∧ mNd L h' ∧ h' 608 18 = mo ∧ h' 608 19 = cb (ip = true) ∧ h' 608 20 = p ∧ h' 608 21 = 0 ∧ h' 608 24 = ((s.length : Nat) : Int) + 1 ∧ h' 608 27 = (s.length : Nat) ∧ stk s h' ∧ ∀ i : Int, 0 ≤ i → i < ln L → h' 622 i = en i) → Q h') (q2 : 12 ≤ s.length → ∀ h' : Hp, MFt h0 5 p h' → h' 608 27 = (s.length : Nat) → h' 608 20 = p → Q h') : Good g (d + 2) i10_deeper [LR 10 608] S0 h S0 (retV Q) := by
  have M' := M
  obtain ⟨M1, M2, M3, M4, M5, M6, M7, M8, M9, M10⟩ := M
  refine g10_deeper (v10_deeper ?_)
  rw [M7]
  refine ⟨fun c h2 k2 => ?_, fun c => ?_⟩
  · rw [w32_id (by omega) (by omega)] at k2
    subst k2
    exact q1 (by omega) _ ⟨M1.f (by decide), M2.to (hup_nj (by decide)) (fun a _ _ => hup_r (by omega)), by rw [hup_nj (by decide)]; exact M3, by rw [hup_nj (by decide)]; exact M4, by rw [hup_nj (by decide)]; exact M5, by rw [hup_nj (by decide)]; exact M6, hup_at, by rw [hup_nj (by decide)]; exact M8, M9.to (fun i _ => ⟨hup_ne (by decide), hup_ne (by decide)⟩), fun i i0 i1 => by rw [hup_ne (by decide)]; exact M10 i i0 i1⟩
  · rw [M5]
    refine m_wrong (fun _ h' e' h5 e5 => ?_) (fun z => absurd M6 z)
    refine q2 (by omega) h5 ((M'.mf p0 p1 (by decide) e').fd (Or.inl rfl) e5) ?_ ?_
    · rw [e5, hup_nj (by decide), e', hup_nj (by decide), hup_nj (by decide), M8]
    · rw [e5, hup_nj (by decide), e', hup_nj (by decide), hup_nj (by decide), M5]
theorem MSt.pop {e : Int × Int} (M : MSt h0 ip mo L p (e :: s) en h) {h1 h2 h3 : Hp} (k1 : h1 = hup h 608 27 (s.length : Nat)) (k2 : h2 = hup h1 608 24 (s.length : Nat)) (k3 : h3 = hup h2 622 e.1 (ln L)) : MSt h0 ip mo L p s (fup en e.1 (ln L)) h3 := by
  obtain ⟨M1, M2, M3, M4, M5, M6, M7, M8, M9, M10⟩ := M
  have : MSt h0 ip mo L p s en h2 := by
    subst k1
    subst k2
    exact ⟨(M1.f (by decide)).f (by decide), M2.to (by rw [hup_nj (by decide), hup_nj (by decide)]) (fun a _ _ => by rw [hup_r (by omega), hup_r (by omega)]), by rw [hup_nj (by decide), hup_nj (by decide)]; exact M3, by rw [hup_nj (by decide), hup_nj (by decide)]; exact M4, by rw [hup_nj (by decide), hup_nj (by decide)]; exact M5, by rw [hup_nj (by decide), hup_nj (by decide)]; exact M6, hup_at, by rw [hup_nj (by decide), hup_at], M9.2.2.to (fun i _ => ⟨by rw [hup_ne (by decide), hup_ne (by decide)], by rw [hup_ne (by decide), hup_ne (by decide)]⟩), fun i i0 i1 => by rw [hup_ne (by decide), hup_ne (by decide)]; exact M10 i i0 i1⟩
  exact this.ne k3
theorem m_ended_l (ok : okE E) (me : mE E h0) (mx : mX B n h0) (ol : okL E L) (l9 : ln L ≤ 120) {Q : Hp → Prop} : ∀ (s : Stk) (p : Int) (en : Int → Int) (h : Hp), s.length ≤ 100 → okS E L s → 0 ≤ p → p ≤ n → MSt h0 ip mo L p s en h → h 608 28 = 0 → MCl h0 B n ip mo Q L s (bl B n p) en → L0 g (d + 1) m10_ended (retV Q) 17 [some (LR 10 608), none, some (LI 1), none, none, none, none] h
  | [], p, en, h, _, _, p0, p1, M, hw, C => by
    refine v10_ended_17 ⟨fun z => absurd z (by decide), fun _ => m_fine ?_⟩
    rw [M.2.2.2.2.2.1, M.2.2.2.2.2.2.2.1]
    exact bz (fun z => absurd rfl z) (fun _ => ⟨fun _ => C h p p0 p1 rfl M hw, fun c => absurd (show ((([] : Stk).length : Nat) : Int) ≤ 0 by decide) c⟩)
  | e :: s, p, en, h, hs, os, p0, p1, M, hw, C => by
    have n1 := mx.2.2.1
    have o4 := ok.2.2.2.1
    have hs : s.length + 1 ≤ 100 := hs
    have l0 := ln_nn L
    obtain ⟨x0, x1, d0, d1⟩ := os e List.mem_cons_self
    have os' : okS E L s := fun y hy => os y (List.mem_cons_of_mem _ hy)
    have ox := ol e.1 x0 x1
    have o7 := ox.p7 ok
    have nx := M.2.1.2 e.1 x0 x1
    have len : ((((e :: s).length : Nat)) : Int) = (s.length : Nat) + 1 := by simp
    have b1 := bl_p (B := B) (n := n) (p := p)
    have b1' := b1.2.1 p1
    refine v10_ended_17 ⟨fun z => absurd z (by decide), fun _ => m_fine ?_⟩
    rw [M.2.2.2.2.2.1, M.2.2.2.2.2.2.2.1, len, show ((s.length : Nat) : Int) + 1 - 1 = (s.length : Nat) by omega, w32_id (x := ((s.length : Nat) : Int)) (by omega) (by omega), M.2.2.2.2.2.2.2.2.1.1, M.2.2.2.2.2.2.2.2.1.2.1, nx.1]
    unfold MCl at C
    refine bz (fun z => absurd rfl z) (fun _ => ⟨fun z => absurd z (by omega), fun _ => ⟨by omega, by omega, x0, by omega, fun c h8 k8 => ?_, fun c h32 k32 h33 k33 h34 k34 => ?_⟩⟩)
    · -- a head
      rw [if_neg (fun z => z c)] at C
      have d1 := d1 c
      have hd : 0 ≤ nd L e.1 1 ∧ nd L e.1 1 < E 0 1 ∧ nd L e.1 7 = E 3 (nd L e.1 1) := by
        rcases ox with o | o | o | o
        · exact ⟨o.2.1, o.2.2.1, o.2.2.2.2.2.2.2.2.1⟩
        · omega
        · omega
        · omega
      rw [w32_id (by omega) (by omega)] at k8
      have M8 : MSt h0 ip mo L p ((e.1, e.2 + 1) :: s) en h8 := by
        obtain ⟨M1, M2, M3, M4, M5, M6, M7, M8, M9, M10⟩ := M
        subst k8
        exact ⟨M1.r (by decide), M2.to (hup_ne (by decide)) (fun a _ _ => hup_r (by omega)), by rw [hup_ne (by decide)]; exact M3, by rw [hup_ne (by decide)]; exact M4, by rw [hup_ne (by decide)]; exact M5, by rw [hup_ne (by decide)]; exact M6, by rw [hup_ne (by decide)]; exact M7, by rw [hup_ne (by decide)]; exact M8, ⟨by rw [hup_ne (by decide)]; exact M9.1, hup_at, M9.2.2.to (fun i hi => ⟨hup_ne (by decide), hup_nj (by omega)⟩)⟩, fun i i0 i1 => by rw [hup_ne (by decide)]; exact M10 i i0 i1⟩
      have w8' : h8 608 28 = 0 := by rw [k8, hup_ne (by decide)]; exact hw
      refine m_blanks (M8.1.mx mx) M8.2.2.2.2.1 p0 (fun h9 k9 => ?_)
      have M9 := M8.ps k9
      have w9 : h9 608 28 = 0 := by rw [k9, hup_nj (by decide)]; exact w8'
      have nx9 := M9.2.1.2 e.1 x0 x1
      have E9 := M9.1.me me
      rw [nx9.2.1, M9.2.2.2.2.2.2.2.2.1.2.1, (E9.2.2.2 _ hd.1 hd.2.1).2.1, ← hd.2.2]
      refine ⟨hd.1, by omega, fun c2 => ?_, fun c2 => ?_⟩
      · rw [if_neg c2] at C
        refine m_here (M9.1.mx mx) M9.2.2.2.2.1 (by omega) ?_
        rw [M9.2.2.2.2.1]
        refine ⟨fun c3 => ⟨fun c4 => m_wrong (fun _ h17 k17 => ?_) (fun z => absurd M9.2.2.2.2.2.1 z), fun c4 => m_wrong (fun _ h17 k17 => ?_) (fun z => absurd M9.2.2.2.2.2.1 z)⟩, fun c3 h21 k21 => ?_⟩
        · rw [if_neg c3, if_neg c4] at C
          have F := M9.mf (by omega) (by omega) (by decide) k17
          refine v10_ended_203 ⟨fun _ h2 k2 => v10_ended_17 ⟨fun _ => C h2 (F.fd (Or.inr (Or.inl rfl)) k2), fun z => absurd rfl z⟩, fun z => absurd rfl z⟩
        · rw [if_neg c3, if_pos c4] at C
          have F := M9.mf (by omega) (by omega) (by decide) k17
          refine v10_ended_203 ⟨fun _ h2 k2 => v10_ended_17 ⟨fun _ => C h2 (F.fd (Or.inr (Or.inl rfl)) k2), fun z => absurd rfl z⟩, fun z => absurd rfl z⟩
        · have c5 := byt_in (B := B) (n := n) (i := bl B n p) (by omega)
          rw [if_pos c3] at C
          rw [w32_id (by omega) (by omega)] at k21
          refine v10_ended_203 ⟨fun _ h2 k2 => v10_ended_17 ⟨fun _ => C h2 ((M9.ps k21).wt k2), fun z => absurd rfl z⟩, fun z => absurd rfl z⟩
      · rw [if_pos c2] at C
        refine m_here (M9.1.mx mx) M9.2.2.2.2.1 (by omega) ?_
        rw [M9.2.2.2.2.1]
        have fin : ∀ {h17 : Hp} {f : Int}, MFt h0 f (bl B n p) h17 → h17 608 27 = ((e.1, e.2 + 1) :: s).length → (∀ h : Hp, MFt h0 f (bl B n p) h → Q h) → L0 g (d + 1) m10_ended (retV Q) 203 [some (LR 10 608), none, some (LI 1), none, some (LI e.1), some (LI 1), none] h17 := by
          intro h17 f F hz C
          refine v10_ended_203 ⟨fun z => absurd z (by decide), fun _ h3 k3 h4 k4 => ⟨x0, by omega, fun h5 k5 => ?_⟩⟩
          have F5 := ((F.fd (Or.inr (Or.inr (Or.inl rfl))) k3).fd (Or.inl rfl) k4).r (by decide) k5
          refine v10_ended_17 ⟨fun z => absurd z (by decide), fun _ => m_fine ?_⟩
          rw [F5.2.1]
          exact bz (fun _ => C h5 F5) (fun z => absurd z F5.2.2.2.1)
        refine ⟨fun c3 => ⟨fun c4 => m_wrong (fun _ h17 k17 => ?_) (fun z => absurd M9.2.2.2.2.2.1 z), fun c4 => m_wrong (fun _ h17 k17 => ?_) (fun z => absurd M9.2.2.2.2.2.1 z)⟩, fun c3 h21 k21 => ?_⟩
        · rw [if_neg c3, if_neg c4] at C
          exact fin (M9.mf (by omega) (by omega) (by decide) k17) (by rw [k17, hup_nj (by decide), hup_nj (by decide)]; exact M9.2.2.2.2.2.2.2.1) C
        · rw [if_neg c3, if_pos c4] at C
          exact fin (M9.mf (by omega) (by omega) (by decide) k17) (by rw [k17, hup_nj (by decide), hup_nj (by decide)]; exact M9.2.2.2.2.2.2.2.1) C
        · have c5 := byt_in (B := B) (n := n) (i := bl B n p) (by omega)
          rw [if_pos c3] at C
          rw [w32_id (by omega) (by omega)] at k21
          have M21 := M9.ps k21
          have w21 : h21 608 28 = 0 := by rw [k21, hup_nj (by decide)]; exact w9
          refine v10_ended_203 ⟨fun z => absurd z (by decide), fun _ h3 k3 h4 k4 => ⟨x0, by omega, fun h5 k5 => ?_⟩⟩
          have len' : (((((e.1, e.2 + 1) :: s).length : Nat)) : Int) = (s.length : Nat) + 1 := by simp
          have a24 : h3 608 24 = (s.length : Nat) + 1 := by rw [k3, hup_nj (by decide), M21.2.2.2.2.2.2.1, len']
          rw [M21.2.2.2.2.2.2.2.1, len', w32_id (by omega) (by omega), show ((s.length : Nat) : Int) + 1 - 1 = (s.length : Nat) by omega] at k3
          rw [a24, w32_id (by omega) (by omega), show ((s.length : Nat) : Int) + 1 - 1 = (s.length : Nat) by omega] at k4
          have a17 : h4 608 17 = ln L := by rw [k4, hup_nj (by decide), k3, hup_nj (by decide)]; exact M21.2.1.1
          rw [a17] at k5
          have M5 := M21.pop (e := (e.1, e.2 + 1)) k3 k4 k5
          exact m_ended_l ok me mx ol l9 s (bl B n p + 1) _ h5 (by omega) os' (by omega) (by omega) M5 (by rw [k5, hup_ne (by decide), k4, hup_nj (by decide), k3, hup_nj (by decide)]; exact w21) C
    · rw [if_pos c] at C
      have a24 : h32 608 24 = (s.length : Nat) + 1 := by rw [k32, hup_nj (by decide), M.2.2.2.2.2.2.1, len]
      rw [a24, w32_id (by omega) (by omega), show ((s.length : Nat) : Int) + 1 - 1 = (s.length : Nat) by omega] at k33
      have a17 : h33 608 17 = ln L := by rw [k33, hup_nj (by decide), k32, hup_nj (by decide)]; exact M.2.1.1
      rw [a17] at k34
      exact m_ended_l ok me mx ol l9 s p _ h34 (by omega) os' p0 p1 (M.pop k32 k33 k34) (by rw [k34, hup_ne (by decide), k33, hup_nj (by decide), k32, hup_nj (by decide)]; exact hw) C
theorem m_ended (ok : okE E) (me : mE E h0) (mx : mX B n h0) (ol : okL E L) (l9 : ln L ≤ 120) {Q : Hp → Prop} {x : Int} (x0 : 0 ≤ x) (x1 : x < ln L) (hs : s.length ≤ 100) (os : okS E L s) (p0 : 0 ≤ p) (p1 : p ≤ n) (M : MSt h0 ip mo L p s en h) (C : MCl h0 B n ip mo Q L s (bl B n p) (fup en x (ln L))) : Good g (d + 2) i10_ended [LR 10 608, LI x] S0 h S0 (retV Q) := by
  refine g10_ended (fun _ => v10_ended ⟨x0, by omega, fun h1 k1 h2 k2 => ?_⟩)
  rw [M.2.1.1] at k1
  exact m_ended_l ok me mx ol l9 s p _ h2 hs os p0 p1 ((M.ne k1).wt k2) (by rw [k2, hup_at]) C
end
