/-! READING, pure: B the bytes, n how many; positions; what a text comes to: (0, place behind, nodes) or (fault, its place, ..) -/
def byt (B : Int → Int) (n i : Int) : Int := if 0 ≤ i ∧ i < n then B i else -1
def blF (B : Int → Int) (n : Int) : Nat → Int → Int
  | 0, p => p
  | k + 1, p => if p < n ∧ (B p = 32 ∨ B p = 10) then blF B n k (p + 1) else p
def bl (B : Int → Int) (n p : Int) : Int := blF B n (n - p).toNat p
theorem bl_s {B : Int → Int} {n p : Int} : bl B n p = if p < n ∧ (B p = 32 ∨ B p = 10) then bl B n (p + 1) else p := by
  unfold bl
  by_cases c : p < n
  · rw [show (n - p).toNat = (n - (p + 1)).toNat + 1 by omega]
    rfl
  · rw [show (n - p).toNat = 0 by omega, if_neg (fun z => c z.1)]
    rfl
theorem bl_p {B : Int → Int} {n p : Int} : p ≤ bl B n p ∧ (p ≤ n → bl B n p ≤ n) ∧ ¬ (bl B n p < n ∧ (B (bl B n p) = 32 ∨ B (bl B n p) = 10)) := by
  have key : ∀ (k : Nat) (p : Int), (n - p).toNat = k → p ≤ bl B n p ∧ (p ≤ n → bl B n p ≤ n) ∧ ¬ (bl B n p < n ∧ (B (bl B n p) = 32 ∨ B (bl B n p) = 10)) := by
    intro k
    induction k with
    | zero =>
      intro p hp
      rw [bl_s, if_neg (fun z => by omega)]
      exact ⟨by omega, fun z => z, fun z => by omega⟩
    | succ k ih =>
      intro p hp
      rw [bl_s]
      by_cases c : p < n ∧ (B p = 32 ∨ B p = 10)
      · rw [if_pos c]
        have := ih (p + 1) (by omega)
        exact ⟨by omega, fun z => this.2.1 (by omega), this.2.2⟩
      · rw [if_neg c]
        exact ⟨by omega, fun z => z, c⟩
  exact key _ p rfl
theorem bl_bl {B : Int → Int} {n p : Int} : bl B n (bl B n p) = bl B n p := by
  rw [bl_s, if_neg bl_p.2.2]
def dgF (B : Int → Int) (n : Int) : Nat → Int → Int
  | 0, p => p
  | k + 1, p => if p < n ∧ 48 ≤ B p ∧ B p ≤ 57 then dgF B n k (p + 1) else p
def dg (B : Int → Int) (n p : Int) : Int := dgF B n (n - p).toNat p
theorem dg_s {B : Int → Int} {n p : Int} : dg B n p = if p < n ∧ 48 ≤ B p ∧ B p ≤ 57 then dg B n (p + 1) else p := by
  unfold dg
  by_cases c : p < n
  · rw [show (n - p).toNat = (n - (p + 1)).toNat + 1 by omega]
    rfl
  · rw [show (n - p).toNat = 0 by omega, if_neg (fun z => c z.1)]
    rfl
theorem dg_p {B : Int → Int} {n p : Int} : p ≤ dg B n p ∧ (p ≤ n → dg B n p ≤ n) ∧ ∀ i : Int, p ≤ i → i < dg B n p → 48 ≤ B i ∧ B i ≤ 57 := by
  have key : ∀ (k : Nat) (p : Int), (n - p).toNat = k → p ≤ dg B n p ∧ (p ≤ n → dg B n p ≤ n) ∧ ∀ i : Int, p ≤ i → i < dg B n p → 48 ≤ B i ∧ B i ≤ 57 := by
    intro k
    induction k with
    | zero =>
      intro p hp
      rw [dg_s, if_neg (fun z => by omega)]
      exact ⟨by omega, fun z => z, fun i i0 i1 => by omega⟩
    | succ k ih =>
      intro p hp
      rw [dg_s]
      by_cases c : p < n ∧ 48 ≤ B p ∧ B p ≤ 57
      · rw [if_pos c]
        have := ih (p + 1) (by omega)
        refine ⟨by omega, fun z => this.2.1 (by omega), fun i i0 i1 => ?_⟩
        by_cases e : i = p
        · subst e
          exact c.2
        · exact this.2.2 i (by omega) i1
      · rw [if_neg c]
        exact ⟨by omega, fun z => z, fun i i0 i1 => by omega⟩
  exact key _ p rfl
/-- the value of k digits from p on, behind a -/
def vl (B : Int → Int) : Nat → Int → Int → Int
  | 0, a, _ => a
  | k + 1, a, p => vl B k (a * 10 + (B p - 48)) (p + 1)
theorem vl_b {B : Int → Int} : ∀ (k : Nat) (a p : Int) (m : Nat), (∀ i : Int, p ≤ i → i < p + k → 48 ≤ B i ∧ B i ≤ 57) → 0 ≤ a → a < (10 : Int) ^ m → 0 ≤ vl B k a p ∧ vl B k a p < (10 : Int) ^ (m + k)
  | 0, a, p, m, _, h0, h1 => ⟨h0, h1⟩
  | k + 1, a, p, m, hd, h0, h1 => by
    have h2 := hd p (by omega) (by omega)
    have := vl_b k (a * 10 + (B p - 48)) (p + 1) (m + 1) (fun i i0 i1 => hd i (by omega) (by omega)) (by omega) (by rw [Int.pow_succ]; omega)
    rw [show m + (k + 1) = m + 1 + k by omega]
    exact this
/-- a number at p: fault, place, value -/
def nuF (B : Int → Int) (n p : Int) : Int := if byt B n p = 45 then p + 1 else p
def nuR (B : Int → Int) (n p : Int) : Int × Int × Int :=
  if 18 < dg B n (nuF B n p) - nuF B n p then (3, p, 0)
  else if dg B n (nuF B n p) = nuF B n p then (1, nuF B n p, 0)
  else (0, dg B n (nuF B n p), if byt B n p = 45 then - vl B (dg B n (nuF B n p) - nuF B n p).toNat 0 (nuF B n p) else vl B (dg B n (nuF B n p) - nuF B n p).toNat 0 (nuF B n p))
/-- nodes -/
def mkN (s hd kn nm sp nu la pa lo nk : Int) : Nd := fun k => match k with
  | 0 => s | 1 => hd | 2 => kn | 3 => nm | 4 => sp | 5 => nu | 6 => la | 7 => pa | 8 => lo | _ => nk
def hdN (E : Ev) (x : Int) : Nd := mkN 0 x 0 (-1) 0 0 0 (E 3 x) (E 4 x) (E 2 x)
def nuN (v : Int) : Nd := mkN 1 (-1) 0 (-1) 0 v 0 0 0 0
def hoN (kn nm sp a b : Int) : Nd := mkN 2 (-1) kn nm sp a b 0 0 0
def ovN (s : Int) : Nd := mkN s (-1) 0 (-1) 0 0 0 1 0 0
/-- a span at p (its bracket passed): fault, place, first, second -/
def spR (B : Int → Int) (n p : Int) : Int × Int × Int × Int :=
  if (nuR B n (bl B n p)).1 ≠ 0 then ((nuR B n (bl B n p)).1, (nuR B n (bl B n p)).2.1, 0, 0)
  else if byt B n (bl B n (nuR B n (bl B n p)).2.1) ≠ 126 then (1, bl B n (nuR B n (bl B n p)).2.1, 0, 0)
  else if (nuR B n (bl B n (bl B n (nuR B n (bl B n p)).2.1 + 1))).1 ≠ 0 then ((nuR B n (bl B n (bl B n (nuR B n (bl B n p)).2.1 + 1))).1, (nuR B n (bl B n (bl B n (nuR B n (bl B n p)).2.1 + 1))).2.1, 0, 0)
  else if byt B n (bl B n (nuR B n (bl B n (bl B n (nuR B n (bl B n p)).2.1 + 1))).2.1) ≠ 93 then (1, bl B n (nuR B n (bl B n (bl B n (nuR B n (bl B n p)).2.1 + 1))).2.1, 0, 0)
  else (0, bl B n (bl B n (nuR B n (bl B n (bl B n (nuR B n (bl B n p)).2.1 + 1))).2.1 + 1), (nuR B n (bl B n p)).2.2, (nuR B n (bl B n (bl B n (nuR B n (bl B n p)).2.1 + 1))).2.2)
/-- a kind at p (its colon passed): fault, place, kind -/
def knR (E : Ev) (B : Int → Int) (n p : Int) : Int × Int × Int :=
  if dg B n (bl B n p) = bl B n p then (1, bl B n p, 0)
  else if 18 < dg B n (bl B n p) - bl B n p then (3, bl B n p, 0)
  else if ¬ vl B (dg B n (bl B n p) - bl B n p).toNat 0 (bl B n p) < E 0 0 then (3, bl B n p, 0)
  else (0, dg B n (bl B n p), vl B (dg B n (bl B n p) - bl B n p).toNat 0 (bl B n p))
/-- from a name on, a kind on, a span on -/
def hs2 (B : Int → Int) (n nm kn p : Int) : Int × Int × Nd :=
  if byt B n (bl B n p) = 91 then (if (spR B n (bl B n p + 1)).1 ≠ 0 then ((spR B n (bl B n p + 1)).1, (spR B n (bl B n p + 1)).2.1, nuN 0) else (0, (spR B n (bl B n p + 1)).2.1, hoN kn nm 1 (spR B n (bl B n p + 1)).2.2.1 (spR B n (bl B n p + 1)).2.2.2))
  else (0, bl B n p, hoN kn nm 0 0 0)
def hs1 (E : Ev) (B : Int → Int) (n nm p : Int) : Int × Int × Nd :=
  if byt B n (bl B n p) = 58 then (if (knR E B n (bl B n p + 1)).1 ≠ 0 then ((knR E B n (bl B n p + 1)).1, (knR E B n (bl B n p + 1)).2.1, nuN 0) else hs2 B n nm (knR E B n (bl B n p + 1)).2.2 (knR E B n (bl B n p + 1)).2.1)
  else hs2 B n nm 0 (bl B n p)
/-- a hole at p (? passed): fault, place, node -/
def hoR (E : Ev) (B : Int → Int) (n p : Int) : Int × Int × Nd :=
  if 48 ≤ byt B n p ∧ byt B n p ≤ 57 then hs1 E B n (byt B n p - 48) (p + 1) else hs1 E B n (-1) p
abbrev Rs : Type := Int × Int × NL
def due (k : Nat) : Int := if k = 0 then 41 else 44
def oth (k : Nat) : Int := if k = 0 then 44 else 41
def rdP (B : Int → Int) (n : Int) (rd : Int → NL → Rs) : Nat → Int → NL → Rs
  | 0, p, L => (0, p, L)
  | k + 1, p, L => if (rd p L).1 ≠ 0 then rd p L
    else if byt B n (bl B n (rd p L).2.1) = due k then rdP B n rd k (bl B n (rd p L).2.1 + 1) (rd p L).2.2
    else ((if byt B n (bl B n (rd p L).2.1) = oth k then 6 else 1), bl B n (rd p L).2.1, (rd p L).2.2)
noncomputable def rdN (E : Ev) (B : Int → Int) (n : Int) (ip : Bool) (mo : Int) : Nat → Nat → Int → NL → Rs
  | 0, _, p, L => (9, p, L)
  | f + 1, w, p, L =>
    if 97 ≤ byt B n (bl B n p) ∧ byt B n (bl B n p) ≤ 122 then
      if ¬ byt B n (bl B n p) - 97 < E 0 1 then (2, bl B n p, L)
      else if ¬ ln L < mo then (4, bl B n p, L)
      else if byt B n (bl B n (bl B n p + 1)) = 40 then
        if ¬ 0 < E 3 (byt B n (bl B n p) - 97) then (6, bl B n (bl B n p + 1), L)
        else if 12 ≤ w then (5, bl B n (bl B n p + 1), L)
        else rdP B n (rdN E B n ip mo f (w + 1)) (E 3 (byt B n (bl B n p) - 97)).toNat (bl B n (bl B n p + 1) + 1) (L ++ [hdN E (byt B n (bl B n p) - 97)])
      else if 0 < E 3 (byt B n (bl B n p) - 97) then (6, bl B n (bl B n p + 1), L)
      else (0, bl B n (bl B n p + 1), L ++ [hdN E (byt B n (bl B n p) - 97)])
    else if byt B n (bl B n p) = 45 ∨ (48 ≤ byt B n (bl B n p) ∧ byt B n (bl B n p) ≤ 57) then
      if (nuR B n (bl B n p)).1 = 3 then (3, bl B n p, L)
      else if ¬ ln L < mo then (4, bl B n p, L)
      else if (nuR B n (bl B n p)).1 ≠ 0 then ((nuR B n (bl B n p)).1, (nuR B n (bl B n p)).2.1, L)
      else (0, (nuR B n (bl B n p)).2.1, L ++ [nuN (nuR B n (bl B n p)).2.2])
    else if ip = true ∧ byt B n (bl B n p) = 63 then
      if ¬ ln L < mo then (4, bl B n p, L)
      else if (hoR E B n (bl B n p + 1)).1 ≠ 0 then ((hoR E B n (bl B n p + 1)).1, (hoR E B n (bl B n p + 1)).2.1, L)
      else (0, (hoR E B n (bl B n p + 1)).2.1, L ++ [(hoR E B n (bl B n p + 1)).2.2])
    else if ip = true ∧ byt B n (bl B n p) = 46 then
      if ¬ ln L < mo then (4, bl B n p, L)
      else if 12 ≤ w then (5, bl B n p, L)
      else if byt B n (bl B n p + 1) ≠ 46 then (1, bl B n p + 1, L)
      else rdN E B n ip mo f (w + 1) (bl B n p + 2) (L ++ [ovN 3])
    else if ip = true ∧ byt B n (bl B n p) = 33 then
      if ¬ ln L < mo then (4, bl B n p, L)
      else if 12 ≤ w then (5, bl B n p, L)
      else rdN E B n ip mo f (w + 1) (bl B n p + 1) (L ++ [ovN 4])
    else (1, bl B n p, L)
noncomputable def rdA (E : Ev) (B : Int → Int) (n : Int) (ip : Bool) (mo : Int) : Rs :=
  if (rdN E B n ip mo 13 0 0 []).1 ≠ 0 then rdN E B n ip mo 13 0 0 []
  else if bl B n (rdN E B n ip mo 13 0 0 []).2.1 < n then (1, bl B n (rdN E B n ip mo 13 0 0 []).2.1, (rdN E B n ip mo 13 0 0 []).2.2)
  else rdN E B n ip mo 13 0 0 []
