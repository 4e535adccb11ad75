/-! PURE: rows of nodes as they are written. A node is a function: 0 sort, 1 head, 2 kind, 3 name, 4 spanned, 5 number, 6 last, 7 parts, 8 loose, 9 kind of the node -/
abbrev Nd : Type := Nat → Int
abbrev NL : Type := List Nd
def nd (L : NL) (i : Int) : Nd := L.getD i.toNat (fun _ => 0)
/-- how many nodes k trees take -/
def tl : NL → Nat → Nat
  | [], _ => 0
  | _ :: _, 0 => 0
  | x :: L, k + 1 => 1 + tl L ((x 7).toNat + k)
/-- the row is just k trees -/
def wf : NL → Nat → Prop
  | [], k => k = 0
  | _ :: _, 0 => False
  | x :: L, k + 1 => wf L ((x 7).toNat + k)
theorem tl_0 (L : NL) : tl L 0 = 0 := by cases L <;> rfl
theorem tl_le : ∀ (L : NL) (k : Nat), tl L k ≤ L.length
  | [], _ => Nat.le_refl _
  | _ :: _, 0 => Nat.zero_le _
  | x :: L, k + 1 => by
    have := tl_le L ((x 7).toNat + k)
    simp only [tl, List.length_cons]
    omega
theorem tl_add : ∀ (L : NL) (j k : Nat), tl L (j + k) = tl L j + tl (L.drop (tl L j)) k
  | [], j, k => by simp [tl]
  | x :: L, 0, k => by simp [tl]
  | x :: L, j + 1, k => by
    have ih := tl_add L ((x 7).toNat + j) k
    rw [show j + 1 + k = j + k + 1 by omega]
    simp only [tl]
    rw [show (x 7).toNat + (j + k) = (x 7).toNat + j + k by omega, ih, show 1 + tl L ((x 7).toNat + j) = tl L ((x 7).toNat + j) + 1 by omega, List.drop_succ_cons]
    omega
theorem wf_tl : ∀ {L : NL} {k : Nat}, wf L k → tl L k = L.length
  | [], _, _ => rfl
  | _ :: _, 0, h => h.elim
  | x :: L, k + 1, h => by
    have := wf_tl (L := L) h
    simp only [tl, List.length_cons, this]
    omega
theorem wf_app : ∀ {A B : NL} {j k : Nat}, wf A j → wf B k → wf (A ++ B) (j + k)
  | [], B, j, k, h, h2 => by
    have h : j = 0 := h
    subst h
    rw [Nat.zero_add]
    exact h2
  | _ :: _, B, 0, k, h, _ => h.elim
  | x :: A, B, j + 1, k, h, h2 => by
    have ih := wf_app (A := A) (B := B) h h2
    rw [show j + 1 + k = j + k + 1 by omega]
    show wf (A ++ B) ((x 7).toNat + (j + k))
    rw [show (x 7).toNat + (j + k) = (x 7).toNat + j + k by omega]
    exact ih
theorem wf_drop : ∀ {L : NL} {k : Nat} (i : Nat), wf L k → i ≤ L.length → ∃ m, wf (L.drop i) m
  | L, k, 0, h, _ => ⟨k, h⟩
  | [], k, i + 1, h, h2 => by simp at h2
  | _ :: _, 0, _ + 1, h, _ => h.elim
  | x :: L, k + 1, i + 1, h, h2 => wf_drop (L := L) i h (by simpa using h2)
theorem wf_skip : ∀ {L : NL} {k : Nat} (j : Nat), wf L (j + k) → wf (L.drop (tl L j)) k
  | [], k, j, h => by
    have h : j + k = 0 := h
    have : k = 0 := by omega
    subst this
    simp [wf]
  | x :: L, k, 0, h => by
    rw [Nat.zero_add] at h
    rw [tl_0]
    exact h
  | x :: L, k, j + 1, h => by
    rw [show j + 1 + k = j + k + 1 by omega] at h
    have h : wf L ((x 7).toNat + (j + k)) := h
    rw [show (x 7).toNat + (j + k) = (x 7).toNat + j + k by omega] at h
    have := wf_skip (L := L) ((x 7).toNat + j) h
    simp only [tl]
    rw [show 1 + tl L ((x 7).toNat + j) = tl L ((x 7).toNat + j) + 1 by omega, List.drop_succ_cons]
    exact this
theorem tl_lt {L : NL} {j k : Nat} (h : wf L (j + k + 1)) : tl L j < L.length := by
  have h1 := wf_skip (k := k + 1) j h
  have h2 := tl_le L j
  by_cases e : tl L j = L.length
  · rw [e, List.drop_length] at h1
    have h1 : k + 1 = 0 := h1
    omega
  · omega
theorem tl_app : ∀ {A B : NL} {j : Nat}, wf A j → ∀ k, tl (A ++ B) (j + k) = A.length + tl B k
  | [], B, j, h, k => by
    have h : j = 0 := h
    subst h
    simp
  | _ :: _, B, 0, h, _ => h.elim
  | x :: A, B, j + 1, h, k => by
    have ih := tl_app (A := A) (B := B) h k
    rw [show j + 1 + k = j + k + 1 by omega]
    simp only [List.cons_append, tl, List.length_cons]
    rw [show (x 7).toNat + (j + k) = (x 7).toNat + j + k by omega, ih]
    omega
theorem tl_swap_ge : ∀ (X : NL) {B C : NL} (k : Nat), wf B 1 → ¬ tl (X ++ B ++ C) k ≤ X.length → B.length ≤ tl (X ++ B ++ C) k
| [], B, C, 0, _, c => by simp [tl_0] at c
| [], B, C, k + 1, hB, c => by
  have h1 := tl_app (B := C) hB k
  rw [Nat.add_comm 1 k] at h1
  simp only [List.nil_append, h1]
  omega
| x :: X, B, C, 0, _, c => by simp [tl] at c
| x :: X, B, C, k + 1, hB, c => by
  simp only [List.cons_append, tl, List.length_cons] at c ⊢
  have := tl_swap_ge X (C := C) ((x 7).toNat + k) hB (by omega)
  omega
/-- a tree within is replaced -/
theorem tl_swap : ∀ (X : NL) {B D C : NL} (k : Nat), wf B 1 → wf D 1 → tl (X ++ D ++ C) k = if tl (X ++ B ++ C) k ≤ X.length then tl (X ++ B ++ C) k else tl (X ++ B ++ C) k - B.length + D.length
  | [], B, D, C, 0, _, _ => by simp [tl_0]
  | [], B, D, C, k + 1, hB, hD => by
    have h1 := tl_app (B := C) hB k
    have h2 := tl_app (B := C) hD k
    rw [Nat.add_comm 1 k] at h1 h2
    have hb : 0 < B.length := by
      cases B with
      | nil => exact absurd (show (1 : Nat) = 0 from hB) (by decide)
      | cons _ _ => simp
    simp only [List.nil_append, List.length_nil, h1, h2]
    split <;> omega
  | x :: X, B, D, C, 0, _, _ => by simp [tl]
  | x :: X, B, D, C, k + 1, hB, hD => by
    have ih := tl_swap X (C := C) ((x 7).toNat + k) hB hD
    simp only [List.cons_append, tl, List.length_cons]
    rw [ih]
    have hb := tl_le (X ++ B ++ C) ((x 7).toNat + k)
    by_cases c : tl (X ++ B ++ C) ((x 7).toNat + k) ≤ X.length
    · rw [if_pos c, if_pos (by omega)]
    · rw [if_neg c, if_neg (by omega)]
      have : B.length ≤ tl (X ++ B ++ C) ((x 7).toNat + k) := tl_swap_ge X _ hB c
      omega
theorem wf_swap : ∀ (X : NL) {B D C : NL} (k : Nat), wf B 1 → wf D 1 → wf (X ++ B ++ C) k → wf (X ++ D ++ C) k
  | [], B, D, C, 0, hB, hD, h => by
    cases B with
    | nil => exact absurd (show (1 : Nat) = 0 from hB) (by decide)
    | cons _ _ => exact h.elim
  | [], B, D, C, k + 1, hB, hD, h => by
    simp only [List.nil_append] at h ⊢
    rw [Nat.add_comm k 1] at h ⊢
    have := wf_skip (L := B ++ C) 1 h
    have e := tl_app (B := C) hB 0
    rw [tl_0, Nat.add_zero, Nat.add_zero] at e
    rw [e, List.drop_left] at this
    exact wf_app hD this
  | x :: X, B, D, C, 0, _, _, h => h.elim
  | x :: X, B, D, C, k + 1, hB, hD, h => wf_swap X ((x 7).toNat + k) hB hD h
/-- a node's size; where its parts begin -/
def sz (L : NL) (i : Int) : Int := (tl (L.drop i.toNat) 1 : Nat)
def kd (L : NL) (i : Int) (j : Nat) : Int := i + 1 + (tl (L.drop (i.toNat + 1)) j : Nat)
def ln (L : NL) : Int := (L.length : Nat)
theorem nd_drop {L : NL} {i : Int} (h0 : 0 ≤ i) (h1 : i < ln L) : L.drop i.toNat = nd L i :: L.drop (i.toNat + 1) := by
  unfold ln at h1
  have hi : i.toNat < L.length := by omega
  rw [List.drop_eq_getElem_cons hi]
  unfold nd
  rw [List.getD_eq_getElem?_getD, List.getElem?_eq_getElem hi]
  rfl
theorem kd_0 {L : NL} {i : Int} : kd L i 0 = i + 1 := by unfold kd; rw [tl_0]; simp
theorem sz_kd {L : NL} {i : Int} (h0 : 0 ≤ i) (h1 : i < ln L) : kd L i (nd L i 7).toNat = i + sz L i := by
  unfold kd sz
  rw [nd_drop h0 h1]
  simp only [tl, Nat.add_zero]
  omega
theorem sz_pos {L : NL} {i : Int} (h0 : 0 ≤ i) (h1 : i < ln L) : 1 ≤ sz L i := by
  unfold sz
  rw [nd_drop h0 h1]
  simp only [tl]
  omega
theorem sz_le {L : NL} {i : Int} (h0 : 0 ≤ i) (h1 : i < ln L) : i + sz L i ≤ ln L := by
  unfold sz ln
  unfold ln at h1
  have := tl_le (L.drop i.toNat) 1
  rw [List.length_drop] at this
  omega
theorem kd_le {L : NL} {i : Int} (h0 : 0 ≤ i) (h1 : i < ln L) (j : Nat) : kd L i j ≤ ln L := by
  unfold kd ln
  unfold ln at h1
  have := tl_le (L.drop (i.toNat + 1)) j
  rw [List.length_drop] at this
  omega
theorem kd_ge {L : NL} {i : Int} (j : Nat) : i + 1 ≤ kd L i j := by unfold kd; omega
theorem kd_s {L : NL} {i : Int} (h0 : 0 ≤ i) (j : Nat) : kd L i (j + 1) = kd L i j + sz L (kd L i j) := by
  unfold sz kd
  rw [tl_add (L.drop (i.toNat + 1)) j 1, List.drop_drop, show (i + 1 + ((tl (L.drop (i.toNat + 1)) j : Nat) : Int)).toNat = i.toNat + 1 + tl (L.drop (i.toNat + 1)) j by omega]
  omega
theorem kd_lt {L : NL} {k : Nat} (w : wf L k) {i : Int} (h0 : 0 ≤ i) (h1 : i < ln L) {j : Nat} (hj : j < (nd L i 7).toNat) : kd L i j < ln L := by
  have h2 := nd_drop h0 h1
  unfold ln at h1
  obtain ⟨m, hm⟩ := wf_drop i.toNat w (by omega)
  rw [h2] at hm
  match m, hm with
  | 0, hm => exact hm.elim
  | m + 1, hm =>
    have hm : wf (L.drop (i.toNat + 1)) ((nd L i 7).toNat + m) := hm
    have := tl_lt (L := L.drop (i.toNat + 1)) (j := j) (k := (nd L i 7).toNat + m - j - 1) (by rw [show j + ((nd L i 7).toNat + m - j - 1) + 1 = (nd L i 7).toNat + m by omega]; exact hm)
    rw [List.length_drop] at this
    unfold kd ln
    omega
theorem sz_all {L : NL} (w : wf L 1) : sz L 0 = ln L := by
  unfold sz ln
  have := wf_tl w
  simp [this]
theorem sz_sub {L : NL} {i : Int} (h0 : 0 ≤ i) (h1 : i < ln L) {n : Int} (c1 : i ≤ n) (c2 : n < i + sz L i) : n + sz L n ≤ i + sz L i := by
  have key : ∀ (X : NL) (k m : Nat), m < tl X k → m + tl (X.drop m) 1 ≤ tl X k := by
    intro X
    induction X with
    | nil => intro k m h; simp [tl] at h
    | cons x X ih =>
      intro k m h
      cases k with
      | zero => simp [tl] at h
      | succ k =>
        simp only [tl] at h ⊢
        cases m with
        | zero =>
          simp only [List.drop_zero, tl]
          have := tl_add X ((x 7).toNat + 0) k
          rw [Nat.add_zero] at this ⊢
          omega
        | succ m =>
          have := ih ((x 7).toNat + k) m (by omega)
          rw [List.drop_succ_cons]
          omega
  have := key (L.drop i.toNat) 1 (n - i).toNat (by unfold sz at c2; omega)
  unfold sz
  rw [List.drop_drop, show i.toNat + (n - i).toNat = n.toNat by omega] at this
  omega
/-- what lies below a node of a row that lies below another -/
theorem sz_in {L : NL} {i : Int} (h0 : 0 ≤ i) (h1 : i < ln L) : ∀ (k : Nat) (n : Int), i < n → n < kd L i k → n + sz L n ≤ kd L i k
  | 0, n, c1, c2 => by rw [kd_0] at c2; omega
  | k + 1, n, c1, c2 => by
    by_cases c : n < kd L i k
    · have := sz_in h0 h1 k n c1 c
      rw [kd_s h0]
      have h5 := kd_ge (L := L) (i := i) k
      have h4 := kd_le h0 h1 k
      have : 0 ≤ sz L (kd L i k) := by unfold sz; omega
      omega
    · rw [kd_s h0] at c2 ⊢
      have h5 := kd_ge (L := L) (i := i) k
      have h4 := kd_le h0 h1 k
      by_cases e : kd L i k < ln L
      · exact sz_sub (by omega) e (by omega) c2
      · exfalso
        have z : sz L (kd L i k) = 0 := by
          unfold sz
          rw [List.drop_eq_nil_of_le (by unfold ln at e; omega)]
          rfl
        omega
