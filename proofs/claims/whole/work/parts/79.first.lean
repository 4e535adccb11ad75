/-! MATCHING, pure: the first filling alone; more kinds and heads -/
section
variable {P T : NL} {FH AL : Int → Int → Prop}
theorem kp_ne {fill : Fl} {s : St} (h : s.2.2.2 ≠ []) : (kpW fill s).2.2.2 ≠ [] := by
  unfold kpW
  split
  · exact h
  · split
    · exact h
    · simp
theorem or_ne {gf : Nat → St → Bool × St} (hg : ∀ (i : Nat) (s : St), s.2.2.2 ≠ [] → (gf i s).2.2.2.2 ≠ []) : ∀ (m i : Nat) (s : St), s.2.2.2 ≠ [] → (orL gf m i s).2.2.2.2 ≠ []
  | 0, _, s, h => h
  | m + 1, i, s, h => by
    unfold orL
    split
    · exact hg i s h
    · exact or_ne hg m (i + 1) _ (hg i s h)
theorem W_ne {fo : Bool} : ∀ (f : Nat) (c : List (Int × Int)) (inn : Bool) (fill : Fl) (s : St), s.2.2.2 ≠ [] → (Wk P T FH AL fo f c inn fill s).2.2.2.2 ≠ []
  | f, [], true, _, s, h => by rw [Wk_t]; exact h
  | f, [], false, fill, s, h => by rw [Wk_f]; exact kp_ne h
  | 0, _ :: _, _, _, s, h => h
  | f + 1, e :: c, inn, fill, s, h => by
    have ih := W_ne (fo := fo) f
    unfold Wk
    split
    · exact h
    · have h' : ((s.1 + 1, s.2) : St).2.2.2 ≠ [] := h
      unfold Wn
      split
      · split
        · exact or_ne (fun i s hs => ih _ _ _ s hs) _ _ _ h'
        · exact h'
      · split
        · split
          · exact ih _ _ _ _ h'
          · exact h'
        · split
          · split
            · split
              · exact ih _ _ _ _ h'
              · split
                · exact ih _ _ _ _ h'
                · split
                  · exact ih _ _ _ _ h'
                  · exact h'
            · exact h'
          · split
            · exact or_ne (fun i s hs => ih _ _ _ s hs) _ _ _ h'
            · split
              · exact or_ne (fun i s hs => ih _ _ _ s hs) _ _ _ h'
              · exact ih _ _ _ _ (or_ne (fun i s hs => ih _ _ _ s hs) _ _ _ h')
/-- the walk that stops at the first against the one that goes on -/
def fD (inn : Bool) (A B : Bool × St) : Prop := (A = B ∧ A.2.2.2.2 = []) ∨ (inn = false ∧ A.1 = true ∧ A.2.2.2.2 ≠ [] ∧ B.2.2.2.2 ≠ [])
theorem or_D {inn : Bool} {gt gf : Nat → St → Bool × St} (hn : ∀ (i : Nat) (s : St), s.2.2.2 ≠ [] → (gf i s).2.2.2.2 ≠ []) (hg : ∀ (i : Nat) (s : St), s.2.2.2 = [] → fD inn (gt i s) (gf i s)) : ∀ (m i : Nat) (s : St), s.2.2.2 = [] → fD inn (orL gt m i s) (orL gf m i s)
  | 0, _, s, h => Or.inl ⟨rfl, h⟩
  | m + 1, i, s, h => by
    unfold orL
    rcases hg i s h with z | z
    · rw [← z.1]
      split
      · exact Or.inl ⟨rfl, z.2⟩
      · exact or_D hn hg m (i + 1) _ z.2
    · rw [if_pos z.2.1]
      refine Or.inr ⟨z.1, rfl, z.2.2.1, ?_⟩
      split
      · exact z.2.2.2
      · exact or_ne hn m (i + 1) _ z.2.2.2
theorem W_D : ∀ (f : Nat) (c : List (Int × Int)) (inn : Bool) (fill : Fl) (s : St), s.2.2.2 = [] → fD inn (Wk P T FH AL true f c inn fill s) (Wk P T FH AL false f c inn fill s)
  | f, [], true, _, s, h => by rw [Wk_t, Wk_t]; exact Or.inl ⟨rfl, h⟩
  | f, [], false, fill, s, h => by
    rw [Wk_f, Wk_f]
    have e : (kpW fill s).2.2.2 ≠ [] := by
      unfold kpW
      rw [if_neg (by rw [h]; rintro ⟨x, hx, _⟩; cases hx), if_neg (by rw [h]; decide)]
      simp
    exact Or.inr ⟨rfl, by simp, e, e⟩
  | 0, _ :: _, _, _, s, h => Or.inl ⟨rfl, h⟩
  | f + 1, e :: c, inn, fill, s, h => by
    have ih := W_D f
    have ne := W_ne (P := P) (T := T) (FH := FH) (AL := AL) (fo := false) f
    unfold Wk
    split
    · exact Or.inl ⟨rfl, h⟩
    · have h' : ((s.1 + 1, s.2) : St).2.2.2 = [] := h
      unfold Wn
      split
      · split
        · exact or_D (fun i s hs => ne _ _ _ s hs) (fun i s hs => ih _ _ _ s hs) _ _ _ h'
        · exact Or.inl ⟨rfl, h'⟩
      · split
        · split
          · exact ih _ _ _ _ h'
          · exact Or.inl ⟨rfl, h'⟩
        · split
          · split
            · split
              · exact ih _ _ _ _ h'
              · split
                · exact ih _ _ _ _ h'
                · split
                  · exact ih _ _ _ _ h'
                  · exact Or.inl ⟨rfl, h'⟩
            · exact Or.inl ⟨rfl, h'⟩
          · split
            · exact or_D (fun i s hs => ne _ _ _ s hs) (fun i s hs => ih _ _ _ s hs) _ _ _ h'
            · have Y := or_D (gt := fun o s => Wk P T FH AL true f [(e.1 + 1, e.2 + (o : Int))] true fill s) (gf := fun o s => Wk P T FH AL false f [(e.1 + 1, e.2 + (o : Int))] true fill s) (inn := true) (fun i s hs => ne _ _ _ s hs) (fun i s hs => ih _ _ _ s hs) (sz T e.2).toNat 0 (s.1 + 1, s.2) h'
              rcases Y with z | z
              · rw [← z.1]
                split
                · exact Or.inl ⟨rfl, z.2⟩
                · exact ih _ _ _ _ z.2
              · exact absurd z.1 (by simp)
end
/-- whether a pattern fits at a node -/
theorem run_D {E : Ev} {P T : NL} {t : Int} : 0 < (run E P T true t).2.2.2.length ↔ 0 < (run E P T false t).2.2.2.length := by
  unfold run
  rcases W_D (P := P) (T := T) (FH := fhG E P T) (AL := alk T) 24 [(0, t)] false (fun _ => -1) (0, 0, 0, []) rfl with z | z
  · rw [z.1]
  · exact ⟨fun _ => List.length_pos_iff.mpr z.2.2.2, fun _ => List.length_pos_iff.mpr z.2.2.1⟩
theorem run_ok {E : Ev} {P T : NL} {t : Int} {fo : Bool} : okSt (run E P T fo t) := okSt_W _ _ _ _ _ ⟨by simp, by simp, Or.inl rfl, Or.inl rfl, by simp⟩
/-- more kinds, more heads -/
def ext (E E' : Ev) : Prop := E 0 0 ≤ E' 0 0 ∧ E 0 1 ≤ E' 0 1 ∧ (∀ k : Int, 0 < k → k < E 0 0 → E' 1 k = E 1 k) ∧ ∀ j : Int, 0 ≤ j → j < E 0 1 → E' 2 j = E 2 j ∧ E' 3 j = E 3 j ∧ E' 4 j = E 4 j
theorem ext.n {E E' : Ev} (x : ext E E') {y : Nd} (o : okN E y) : okN E' y := by
  obtain ⟨x1, x2, x3, x4⟩ := x
  rcases o with o | o | o | o
  · have z := x4 _ o.2.1 o.2.2.1
    left
    rw [z.1, z.2.1, z.2.2]
    exact ⟨o.1, o.2.1, by omega, o.2.2.2⟩
  · exact Or.inr (Or.inl o)
  · refine Or.inr (Or.inr (Or.inl ⟨o.1, o.2.1, o.2.2.1, by omega, o.2.2.2.2⟩))
  · exact Or.inr (Or.inr (Or.inr o))
theorem ext.l {E E' : Ev} (x : ext E E') {L : NL} (o : okL E L) : okL E' L := fun i i0 i1 => x.n (o i i0 i1)
theorem ext.t {E E' : Ev} (x : ext E E') {T : NL} (o : okT E T) : okT E' T := ⟨x.l o.1, o.2⟩
theorem ext.p {E E' : Ev} (x : ext E E') {P : Ps} (o : okP E P) : okP E' P := fun p p0 p1 => ⟨(o p p0 p1).1, (o p p0 p1).2.1, fun z => ⟨x.l ((o p p0 p1).2.2 z).1, ((o p p0 p1).2.2 z).2⟩⟩
theorem ext.lF {E E' : Ev} (ok : okE E) (x : ext E E') : ∀ (n : Nat) (k b : Int), 0 ≤ k → k < E 0 0 → (lieF (E' 1) n k b ↔ lieF (E 1) n k b)
  | 0, k, b, _, _ => Iff.rfl
  | n + 1, k, b, k0, k1 => by
    by_cases z : 0 < k
    · have hu := ok.2.2.2.2.1 k z k1
      have := ext.lF ok x n (E 1 k) b hu.1 (by omega)
      simp only [lieF, x.2.2.1 k z k1, this]
    · simp [lieF, z]
theorem ext.hg {E E' : Ev} (ok : okE E) (x : ext E E') {P T : NL} (oT : okL E T) : fhG E' P T = fhG E P T := by
  funext p t
  apply propext
  unfold fhG
  refine and_congr_right (fun hp => and_congr_right (fun ht => ?_))
  have t9 := (oT t ht.1 ht.2).p9 ok
  unfold fh lie
  rw [ext.lF ok x 12 _ _ t9.1 t9.2]
theorem ext.r {E E' : Ev} (ok : okE E) (x : ext E E') {P T : NL} (oT : okL E T) (fo : Bool) (t : Int) : run E' P T fo t = run E P T fo t := by
  unfold run
  rw [ext.hg ok x oT]
