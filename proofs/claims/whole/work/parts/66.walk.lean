/-! MATCHING, pure: what is still to be fit is a row of pairs; tries, spent, many, the fillings that were kept -/
abbrev Fl : Type := Int → Int
abbrev St : Type := Int × Int × Int × List Fl
def ordT : List Nat := [0, 1, 2, 3, 0, 1, 3, 2, 0, 2, 1, 3, 0, 2, 3, 1, 0, 3, 1, 2, 0, 3, 2, 1, 1, 0, 2, 3, 1, 0, 3, 2, 1, 2, 0, 3, 1, 2, 3, 0, 1, 3, 0, 2, 1, 3, 2, 0, 2, 0, 1, 3, 2, 0, 3, 1, 2, 1, 0, 3, 2, 1, 3, 0, 2, 3, 0, 1, 2, 3, 1, 0, 3, 0, 1, 2, 3, 0, 2, 1, 3, 1, 0, 2, 3, 1, 2, 0, 3, 2, 0, 1, 3, 2, 1, 0]
def ocT : List Nat := [1, 1, 2, 6, 24]
/-- the o-th order of n: where its k-th part stands -/
def ord (n o k : Nat) : Nat := ordT.getD (o * 4 + (4 - n) + k) 0 - (4 - n)
theorem ord_b : ∀ n : Nat, n ≤ 4 → ∀ o : Nat, o < ocT.getD n 0 → ∀ k : Nat, k < n → ord n o k < n ∧ 4 - n ≤ ordT.getD (o * 4 + (4 - n) + k) 0 ∧ o * 4 + (4 - n) + k < 96 ∧ ordT.getD (o * 4 + (4 - n) + k) 0 < 4 := by
  have key : ((List.range 5).all (fun n => (List.range 24).all (fun o => (List.range 4).all (fun k => decide (o < ocT.getD n 0 → k < n → ord n o k < n ∧ 4 - n ≤ ordT.getD (o * 4 + (4 - n) + k) 0 ∧ o * 4 + (4 - n) + k < 96 ∧ ordT.getD (o * 4 + (4 - n) + k) 0 < 4))))) = true := by decide +kernel
  intro n hn o ho k hk
  have o24 : o < 24 := by
    have : ocT.getD n 0 ≤ 24 := by
      match n, hn with
      | 0, _ => decide
      | 1, _ => decide
      | 2, _ => decide
      | 3, _ => decide
      | 4, _ => decide
    omega
  have k1 := List.all_eq_true.mp key n (List.mem_range.mpr (by omega))
  have k2 := List.all_eq_true.mp k1 o (List.mem_range.mpr o24)
  have k3 := List.all_eq_true.mp k2 k (List.mem_range.mpr (by omega))
  exact of_decide_eq_true k3 ho hk
theorem oc_p : ∀ n : Nat, n ≤ 4 → 1 ≤ ocT.getD n 0 ∧ ocT.getD n 0 ≤ 24 := by
  intro n hn
  match n, hn with
  | 0, _ => decide
  | 1, _ => decide
  | 2, _ => decide
  | 3, _ => decide
  | 4, _ => decide
def feq (f f' : Fl) : Prop := ∀ k : Int, 0 ≤ k → k < 10 → f k = f' k
/-- tries until one ends -/
def orL (gf : Nat → St → Bool × St) : Nat → Nat → St → Bool × St
  | 0, _, s => (false, s)
  | m + 1, i, s => if (gf i s).1 = true then (true, (gf i s).2) else orL gf m (i + 1) (gf i s).2
/-- parts of p over against parts of t, from the k-th on, m many, by the o-th order -/
def prt (P T : NL) (p t : Int) (n o : Nat) : Nat → Nat → List (Int × Int)
  | 0, _ => []
  | m + 1, k => (kd P p k, kd T t (ord n o k)) :: prt P T p t n o m (k + 1)
noncomputable def kpW (fill : Fl) (s : St) : St := @ite _ (∃ f ∈ s.2.2.2, feq f fill) (Classical.propDecidable _) s (if 30 ≤ s.2.2.2.length then (s.1, s.2.1, 1, s.2.2.2) else (s.1, s.2.1, s.2.2.1, s.2.2.2 ++ [fill]))
def nO (P : NL) (p : Int) : Nat := if nd P p 8 = 1 then ocT.getD (nd P p 7).toNat 0 else 1
section
variable (P T : NL) (FH AL : Int → Int → Prop) (fo : Bool)
/-- what the walk does at a pair with tries counted -/
noncomputable def Wn (rec : List (Int × Int) → Bool → Fl → St → Bool × St) (p t : Int) (c : List (Int × Int)) (inn : Bool) (fill : Fl) (s : St) : Bool × St :=
  if nd P p 0 = 0 then (if nd P p 1 = nd T t 1 then orL (fun o s => rec (prt P T p t (nd P p 7).toNat o (nd P p 7).toNat 0 ++ c) inn fill s) (nO P p) 0 s else (false, s))
  else if nd P p 0 = 1 then (if nd T t 0 = 1 ∧ nd T t 5 = nd P p 5 then rec c inn fill s else (false, s))
  else if nd P p 0 = 2 then
    @ite _ (FH p t) (Classical.propDecidable _)
      (if nd P p 3 < 0 then rec c inn fill s
       else if fill (nd P p 3) = -1 then rec c inn (fup fill (nd P p 3) t) s
       else @ite _ (AL (fill (nd P p 3)) t) (Classical.propDecidable _) (rec c inn fill s) (false, s))
      (false, s)
  else if nd P p 0 = 3 then orL (fun o s => rec ((p + 1, t + o) :: c) inn fill s) (sz T t).toNat 0 s
  else if (orL (fun o s => rec [(p + 1, t + o)] true fill s) (sz T t).toNat 0 s).1 = true then (decide ((orL (fun o s => rec [(p + 1, t + o)] true fill s) (sz T t).toNat 0 s).2.2.1 = 1), (orL (fun o s => rec [(p + 1, t + o)] true fill s) (sz T t).toNat 0 s).2)
  else rec c inn fill (orL (fun o s => rec [(p + 1, t + o)] true fill s) (sz T t).toNat 0 s).2
noncomputable def Wk : Nat → List (Int × Int) → Bool → Fl → St → Bool × St
  | _, [], true, _, s => (true, s)
  | _, [], false, fill, s => (fo || decide ((kpW fill s).2.2.1 = 1), kpW fill s)
  | 0, _ :: _, _, _, s => (true, s)
  | f + 1, e :: c, inn, fill, s => if 2000 ≤ s.1 then (true, (s.1, 1, s.2.2)) else Wn P T FH AL (Wk f) e.1 e.2 c inn fill (s.1 + 1, s.2)
end
/-- how much of a pattern waits -/
def wgt (P : NL) : List (Int × Int) → Int
  | [] => 0
  | e :: c => sz P e.1 + wgt P c
theorem wgt_app {P : NL} : ∀ A C : List (Int × Int), wgt P (A ++ C) = wgt P A + wgt P C
  | [], C => by simp [wgt]
  | e :: A, C => by
    simp only [List.cons_append, wgt, wgt_app A C]
    omega
theorem prt_len {P T : NL} {p t : Int} {n o : Nat} : ∀ m k : Nat, (prt P T p t n o m k).length = m
  | 0, _ => rfl
  | m + 1, k => by simp [prt, prt_len m (k + 1)]
theorem prt_wgt {P T : NL} {p t : Int} (p0 : 0 ≤ p) {n o : Nat} : ∀ m k : Nat, wgt P (prt P T p t n o m k) = kd P p (k + m) - kd P p k
  | 0, k => by simp [prt, wgt]
  | m + 1, k => by
    simp only [prt, wgt]
    rw [prt_wgt p0 m (k + 1), show k + 1 + m = k + (m + 1) by omega, kd_s p0 k]
    omega
/-- pairs within their rows -/
def okc (P T : NL) (c : List (Int × Int)) : Prop := ∀ e ∈ c, 0 ≤ e.1 ∧ e.1 < ln P ∧ 0 ≤ e.2 ∧ e.2 < ln T
theorem okc_prt {P T : NL} (wP : wf P 1) (wT : wf T 1) {p t : Int} (p0 : 0 ≤ p) (p1 : p < ln P) (t0 : 0 ≤ t) (t1 : t < ln T) {n o : Nat} (hn : n = (nd P p 7).toNat) (hn2 : n = (nd T t 7).toNat) (n4 : n ≤ 4) (ho : o < ocT.getD n 0) : ∀ m k : Nat, k + m ≤ n → okc P T (prt P T p t n o m k)
  | 0, k, _ => fun e he => by cases he
  | m + 1, k, hk => fun e he => by
    rcases List.mem_cons.mp he with rfl | z
    · have b := ord_b n n4 o ho k (by omega)
      have g1 := kd_ge (L := P) (i := p) k
      have g2 := kd_ge (L := T) (i := t) (ord n o k)
      exact ⟨by simp only; omega, kd_lt wP p0 p1 (by omega), by simp only; omega, kd_lt wT t0 t1 (by omega)⟩
    · exact okc_prt wP wT p0 p1 t0 t1 hn hn2 n4 ho m (k + 1) (by omega) e z
theorem wgt_nn {P : NL} : ∀ c : List (Int × Int), 0 ≤ wgt P c
  | [] => by simp [wgt]
  | e :: c => by
    have := wgt_nn (P := P) c
    have : 0 ≤ sz P e.1 := by unfold sz; omega
    simp only [wgt]
    omega
theorem wgt_len {P T : NL} : ∀ {c : List (Int × Int)}, okc P T c → (c.length : Int) ≤ wgt P c
  | [], _ => by simp [wgt]
  | e :: c, h => by
    have := wgt_len (P := P) (T := T) (c := c) (fun x hx => h x (List.mem_cons_of_mem _ hx))
    have h1 := h e List.mem_cons_self
    have := sz_pos (L := P) h1.1 h1.2.1
    simp only [wgt, List.length_cons]
    omega
/-- a state that may be -/
def okSt (s : St) : Prop := 0 ≤ s.1 ∧ s.1 ≤ 2000 ∧ (s.2.1 = 0 ∨ s.2.1 = 1) ∧ (s.2.2.1 = 0 ∨ s.2.2.1 = 1) ∧ s.2.2.2.length ≤ 30
def okFl (T : NL) (f : Fl) : Prop := ∀ k : Int, 0 ≤ k → k < 10 → f k = -1 ∨ (0 ≤ f k ∧ f k < ln T)
theorem okSt_kp {fill : Fl} {s : St} (h : okSt s) : okSt (kpW fill s) := by
  unfold kpW
  split
  · exact h
  · split
    · exact ⟨h.1, h.2.1, h.2.2.1, Or.inr rfl, h.2.2.2.2⟩
    · refine ⟨h.1, h.2.1, h.2.2.1, h.2.2.2.1, ?_⟩
      simp
      omega
theorem okSt_or {gf : Nat → St → Bool × St} (hg : ∀ (i : Nat) (s : St), okSt s → okSt (gf i s).2) : ∀ (m i : Nat) (s : St), okSt s → okSt (orL gf m i s).2
  | 0, _, s, h => h
  | m + 1, i, s, h => by
    unfold orL
    split
    · exact hg i s h
    · exact okSt_or hg m (i + 1) _ (hg i s h)
theorem okSt_W {P T : NL} {FH AL : Int → Int → Prop} {fo : Bool} : ∀ (f : Nat) (c : List (Int × Int)) (inn : Bool) (fill : Fl) (s : St), okSt s → okSt (Wk P T FH AL fo f c inn fill s).2
  | 0, [], true, _, s, h => h
  | f + 1, [], true, _, s, h => h
  | 0, [], false, fill, s, h => by
    show okSt (kpW fill s)
    exact okSt_kp h
  | f + 1, [], false, fill, s, h => by
    show okSt (kpW fill s)
    exact okSt_kp h
  | 0, _ :: _, _, _, s, h => h
  | f + 1, e :: c, inn, fill, s, h => by
    have ih := okSt_W (P := P) (T := T) (FH := FH) (AL := AL) (fo := fo) f
    unfold Wk
    split
    · exact ⟨h.1, h.2.1, Or.inr rfl, h.2.2.2.1, h.2.2.2.2⟩
    · rename_i c1
      have h' : okSt (s.1 + 1, s.2) := ⟨by have := h.1; simp; omega, by simp; omega, h.2.2.1, h.2.2.2.1, h.2.2.2.2⟩
      unfold Wn
      split
      · split
        · exact okSt_or (fun i s hs => ih _ _ _ s hs) _ _ _ h'
        · exact h'
      · split
        · split
          · exact ih _ _ _ _ h'
          · exact h'
        · split
          · split
            · split
              · exact ih _ _ _ _ h'
              · split
                · exact ih _ _ _ _ h'
                · split
                  · exact ih _ _ _ _ h'
                  · exact h'
            · exact h'
          · split
            · exact okSt_or (fun i s hs => ih _ _ _ s hs) _ _ _ h'
            · split
              · exact okSt_or (fun i s hs => ih _ _ _ s hs) _ _ _ h'
              · exact ih _ _ _ _ (okSt_or (fun i s hs => ih _ _ _ s hs) _ _ _ h')
