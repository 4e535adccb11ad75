/-! ASKING, pure: the i-th of some by a count -/
theorem cntF_le {f f' : Int → Int} : ∀ k : Nat, (∀ i : Int, 0 ≤ i → i < k → f i ≤ f' i) → cntF f k ≤ cntF f' k
  | 0, _ => Int.le_refl _
  | k + 1, h => by
    have := cntF_le k (fun i i0 i1 => h i i0 (by omega))
    have := h k (by omega) (by omega)
    simp only [cntF]
    omega
theorem cntF_lt {f f' : Int → Int} : ∀ (k : Nat) (j : Int), 0 ≤ j → j < k → f j < f' j → (∀ i : Int, 0 ≤ i → i < k → f i ≤ f' i) → cntF f k < cntF f' k
  | 0, j, j0, j1, _, _ => by omega
  | k + 1, j, j0, j1, hj, h => by
    have hk := h k (by omega) (by omega)
    simp only [cntF]
    by_cases c : j = k
    · subst c
      have := cntF_le k (fun i i0 i1 => h i i0 (by omega))
      omega
    · have := cntF_lt k j j0 (by omega) hj (fun i i0 i1 => h i i0 (by omega))
      omega
theorem cb_iff {p q : Prop} (h : p ↔ q) : cb p = cb q := by rw [propext h]
theorem cb_le {p q : Prop} (h : p → q) : cb p ≤ cb q := by
  by_cases c : p
  · rw [cb_t c, cb_t (h c)]; exact Int.le_refl _
  · rw [cb_f c]; have := cb_01 q; omega
/-- the one that has so many ahead of it, or none -/
def Th (X : Int → Prop) (c : Int → Int) (N i R : Int) : Prop := (0 ≤ R ∧ R < N ∧ X R ∧ c R = i) ∨ (R = -1 ∧ ∀ p : Int, 0 ≤ p → p < N → X p → c p ≠ i)
theorem Th_u {X : Int → Prop} {c : Int → Int} {N i R R' : Int} (inj : ∀ p q : Int, 0 ≤ p → p < N → 0 ≤ q → q < N → X p → X q → c p = c q → p = q) (a : Th X c N i R) (b : Th X c N i R') : R = R' := by
  rcases a with a | a
  · rcases b with b | b
    · exact inj R R' a.1 a.2.1 b.1 b.2.1 a.2.2.1 b.2.2.1 (by omega)
    · exact absurd a.2.2.2 (b.2 R a.1 a.2.1 a.2.2.1)
  · rcases b with b | b
    · exact absurd b.2.2.2 (a.2 R' b.1 b.2.1 b.2.2.1)
    · omega
/-- how many below n -/
noncomputable def cbl (X : Int → Prop) (n : Int) : Int := cntF (fun q => cb (X q)) n.toNat
theorem cbl_0 {X : Int → Prop} : cbl X 0 = 0 := rfl
theorem cbl_s {X : Int → Prop} {n : Int} (n0 : 0 ≤ n) : cbl X (n + 1) = cbl X n + cb (X n) := by
  unfold cbl
  rw [show (n + 1).toNat = n.toNat + 1 by omega]
  simp only [cntF]
  rw [show ((n.toNat : Nat) : Int) = n by omega]
theorem cbl_b {X : Int → Prop} {n : Int} (n0 : 0 ≤ n) : 0 ≤ cbl X n ∧ cbl X n ≤ n := by
  have := cntF_01 (f := fun q => cb (X q)) (fun q => cb_01 _) n.toNat
  unfold cbl
  omega
theorem cbl_m {X : Int → Prop} {a b : Int} (a0 : 0 ≤ a) (ab : a ≤ b) : cbl X a ≤ cbl X b := by
  have key : ∀ m : Nat, cbl X a ≤ cbl X (a + m) := by
    intro m
    induction m with
    | zero => simp
    | succ m ih =>
      rw [show a + ((m + 1 : Nat) : Int) = a + m + 1 by omega, cbl_s (by omega)]
      have := cb_01 (X (a + m))
      omega
  have := key (b - a).toNat
  rwa [show a + ((b - a).toNat : Int) = b by omega] at this
theorem cbl_lt {X : Int → Prop} {a b : Int} (a0 : 0 ≤ a) (ab : a < b) (x : X a) : cbl X a < cbl X b := by
  have := cbl_m (X := X) (a := a + 1) (b := b) (by omega) (by omega)
  rw [cbl_s a0, cb_t x] at this
  omega
theorem cbl_inj {X : Int → Prop} {p q : Int} (p0 : 0 ≤ p) (q0 : 0 ≤ q) (xp : X p) (xq : X q) (e : cbl X p = cbl X q) : p = q := by
  rcases Int.lt_trichotomy p q with c | c | c
  · have := cbl_lt p0 c xp; omega
  · exact c
  · have := cbl_lt q0 c xq; omega
/-- ahead by rank, then by number -/
def ahd (rk : Int → Int) (p q : Int) : Prop := rk p < rk q ∨ (rk p = rk q ∧ p < q)
noncomputable def ahc (X : Int → Prop) (rk : Int → Int) (p : Int) : Int := cntF (fun q => cb (X q ∧ ahd rk q p)) 40
theorem ahc_lt {X : Int → Prop} {rk : Int → Int} {p q : Int} (p0 : 0 ≤ p) (p1 : p < 40) (x : X p) (a : ahd rk p q) : ahc X rk p < ahc X rk q := by
  refine cntF_lt 40 p p0 p1 ?_ (fun i _ _ => cb_le (fun z => ⟨z.1, ?_⟩))
  · show cb (X p ∧ ahd rk p p) < cb (X p ∧ ahd rk p q)
    have e1 : cb (X p ∧ ahd rk p q) = 1 := cb_t ⟨x, a⟩
    have e2 : cb (X p ∧ ahd rk p p) = 0 := cb_f (fun z => by have := z.2; unfold ahd at this; omega)
    omega
  · have z2 := z.2
    unfold ahd at *
    omega
theorem ahc_inj {X : Int → Prop} {rk : Int → Int} (p q : Int) (p0 : 0 ≤ p) (p1 : p < 40) (q0 : 0 ≤ q) (q1 : q < 40) (xp : X p) (xq : X q) (e : ahc X rk p = ahc X rk q) : p = q := by
  by_cases c : ahd rk p q
  · have := ahc_lt p0 p1 xp c; omega
  · by_cases c2 : ahd rk q p
    · have := ahc_lt q0 q1 xq c2; omega
    · unfold ahd at c c2
      omega
/-- a row in order, of those below y -/
def fRow (X : Int → Prop) (rk : Int → Int) (y : Nat) (F : Int → Int) (c : Nat) : Prop := (∀ j : Int, 0 ≤ j → j < c → 0 ≤ F j ∧ F j < y ∧ X (F j)) ∧ (∀ j k : Int, 0 ≤ j → j < k → k < c → ahd rk (F j) (F k)) ∧ (∀ Y : Int → Prop, cntF (fun q => cb (X q ∧ Y q)) y = cntF (fun j => cb (Y (F j))) c)
theorem fRow_0 {X : Int → Prop} {rk : Int → Int} {F : Int → Int} : fRow X rk 0 F 0 := ⟨fun j _ _ => by omega, fun j k _ _ _ => by omega, fun _ => rfl⟩
theorem fRow_n {X : Int → Prop} {rk : Int → Int} {y : Nat} {F : Int → Int} {c : Nat} (H : fRow X rk y F c) (n : ¬ X y) : fRow X rk (y + 1) F c := by
  refine ⟨fun j j0 j1 => ⟨(H.1 j j0 j1).1, by have := (H.1 j j0 j1).2.1; omega, (H.1 j j0 j1).2.2⟩, H.2.1, fun Y => ?_⟩
  simp only [cntF]
  rw [H.2.2 Y, cb_f (fun z => n z.1)]
  omega
theorem fRow_c {X : Int → Prop} {rk : Int → Int} {y : Nat} {F : Int → Int} {c : Nat} (H : fRow X rk y F c) : cntF (fun q => cb (X q)) y = c := by
  have := H.2.2 (fun _ => True)
  have e : ∀ m : Nat, cntF (fun _ => cb True) m = m := by
    intro m
    induction m with
    | zero => rfl
    | succ m ih =>
      show cntF (fun _ => cb True) m + cb True = _
      rw [ih, cb_t trivial]
      omega
  rw [e] at this
  rw [← this]
  exact cntF_c _ (fun i _ _ => cb_iff ⟨fun z => ⟨z, trivial⟩, fun z => z.1⟩)
theorem fRow_to {X : Int → Prop} {rk : Int → Int} {y : Nat} {F F' : Int → Int} {c : Nat} (H : fRow X rk y F c) (e : ∀ j : Int, 0 ≤ j → j < c → F' j = F j) : fRow X rk y F' c := by
  refine ⟨fun j j0 j1 => by rw [e j j0 j1]; exact H.1 j j0 j1, fun j k j0 jk k1 => by rw [e j j0 (by omega), e k (by omega) k1]; exact H.2.1 j k j0 jk k1, fun Y => ?_⟩
  rw [H.2.2 Y]
  exact cntF_c _ (fun j j0 j1 => by rw [e j j0 j1])
/-- one more, at its place -/
theorem fRow_s {X : Int → Prop} {rk : Int → Int} {y : Nat} {F F' : Int → Int} {c i : Nat} (H : fRow X rk y F c) (x : X y) (ic : i ≤ c) (lo : 0 < i → rk (F ((i : Int) - 1)) ≤ rk y) (hi : ∀ j : Int, i ≤ j → j < c → rk y < rk (F j)) (e : ∀ k : Int, 0 ≤ k → k ≤ c → F' k = if k < i then F k else if k = i then (y : Int) else F (k - 1)) : fRow X rk (y + 1) F' (c + 1) := by
  obtain ⟨H1, H2, H3⟩ := H
  have low : ∀ j : Int, 0 ≤ j → j < i → rk (F j) ≤ rk y := fun j j0 j1 => by
    have l := lo (by omega)
    by_cases cj : j = (i : Int) - 1
    · rw [cj]; exact l
    · have := H2 j ((i : Int) - 1) j0 (by omega) (by omega)
      unfold ahd at this
      omega
  refine ⟨fun j j0 j1 => ?_, fun j k j0 jk k1 => ?_, fun Y => ?_⟩
  · rw [e j j0 (by omega)]
    split
    · have := H1 j j0 (by omega)
      exact ⟨this.1, by omega, this.2.2⟩
    · split
      · exact ⟨by omega, by omega, x⟩
      · have := H1 (j - 1) (by omega) (by omega)
        exact ⟨this.1, by omega, this.2.2⟩
  · rw [e j j0 (by omega), e k (by omega) (by omega)]
    by_cases c1 : k < i
    · rw [if_pos (by omega), if_pos c1]
      exact H2 j k j0 jk (by omega)
    · rw [if_neg c1]
      by_cases c2 : k = i
      · rw [if_pos c2, if_pos (by omega)]
        have a := low j j0 (by omega)
        have b := (H1 j j0 (by omega)).2.1
        unfold ahd
        omega
      · rw [if_neg c2]
        by_cases c3 : j < i
        · rw [if_pos c3]
          by_cases c4 : j = k - 1
          · omega
          · exact H2 j (k - 1) j0 (by omega) (by omega)
        · rw [if_neg c3]
          by_cases c4 : j = i
          · rw [if_pos c4]
            exact Or.inl (hi (k - 1) (by omega) (by omega))
          · rw [if_neg c4]
            exact H2 (j - 1) (k - 1) (by omega) (by omega) (by omega)
  · simp only [cntF]
    rw [H3 Y, cb_iff (p := X y ∧ Y y) (q := Y y) ⟨fun z => z.2, fun z => ⟨x, z⟩⟩]
    have key : ∀ m : Nat, i + m ≤ c → cntF (fun j => cb (Y (F' j))) (i + m + 1) = cntF (fun j => cb (Y (F j))) (i + m) + cb (Y y) := by
      intro m
      induction m with
      | zero =>
        intro hm
        simp only [cntF, Nat.add_zero]
        rw [e i (by omega) (by omega), if_neg (by omega), if_pos rfl, cntF_c i (f := fun j => cb (Y (F' j))) (f' := fun j => cb (Y (F j)))]
        intro j j0 j1
        rw [e j j0 (by omega), if_pos j1]
      | succ m ih =>
        intro hm
        have := ih (by omega)
        rw [show i + (m + 1) + 1 = (i + m + 1) + 1 by omega, show i + (m + 1) = i + m + 1 by omega]
        show cntF (fun j => cb (Y (F' j))) (i + m + 1) + cb (Y (F' ((i + m + 1 : Nat) : Int))) = cntF (fun j => cb (Y (F j))) (i + m) + cb (Y (F ((i + m : Nat) : Int))) + cb (Y y)
        rw [this, e ((i + m + 1 : Nat) : Int) (by omega) (by omega), if_neg (by omega), if_neg (by omega), show ((i + m + 1 : Nat) : Int) - 1 = ((i + m : Nat) : Int) by omega]
        omega
    have := key (c - i) (by omega)
    rw [show i + (c - i) = c by omega] at this
    exact this.symm
theorem fRow_at {X : Int → Prop} {rk : Int → Int} {F : Int → Int} {c : Nat} (H : fRow X rk 40 F c) {i : Int} (i0 : 0 ≤ i) (i1 : i < c) : Th X (ahc X rk) 40 i (F i) := by
  obtain ⟨H1, H2, H3⟩ := H
  have h := H1 i i0 i1
  refine Or.inl ⟨h.1, h.2.1, h.2.2, ?_⟩
  unfold ahc
  rw [H3 (fun q => ahd rk q (F i))]
  have key : ∀ m : Nat, m ≤ c → cntF (fun j => cb (ahd rk (F j) (F i))) m = if (m : Int) ≤ i then (m : Int) else i := by
    intro m
    induction m with
    | zero => intro _; rw [if_pos (by omega)]; rfl
    | succ m ih =>
      intro hm
      simp only [cntF]
      rw [ih (by omega)]
      rcases Int.lt_trichotomy (m : Int) i with z | z | z
      · rw [if_pos (by omega), if_pos (by omega), cb_t (H2 m i (by omega) z i1)]
        omega
      · rw [if_pos (by omega), if_neg (by omega), cb_f (fun y => by rw [z] at y; unfold ahd at y; omega)]
        omega
      · rw [if_neg (by omega), if_neg (by omega), cb_f (fun y => by have := H2 i m i0 z (by omega); unfold ahd at this y; omega)]
        omega
  rw [key c (Nat.le_refl _), if_neg (by omega)]
theorem fRow_no {X : Int → Prop} {rk : Int → Int} {F : Int → Int} {c : Nat} (H : fRow X rk 40 F c) {i : Int} (hi : ¬ (0 ≤ i ∧ i < c)) : Th X (ahc X rk) 40 i (-1) := by
  refine Or.inr ⟨rfl, fun p p0 p1 xp e => hi ?_⟩
  have c0 := fRow_c H
  have a : 0 ≤ ahc X rk p := by
    have := cntF_01 (f := fun q => cb (X q ∧ ahd rk q p)) (fun q => cb_01 _) 40
    unfold ahc
    omega
  have b : ahc X rk p < cntF (fun q => cb (X q)) 40 := by
    refine cntF_lt 40 p p0 p1 ?_ (fun i _ _ => cb_le (fun z => z.1))
    show cb (X p ∧ ahd rk p p) < cb (X p)
    rw [cb_t xp, cb_f (fun z => by have := z.2; unfold ahd at this; omega)]
    decide
  omega
