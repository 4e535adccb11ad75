/-! THE MODEL'S READER: read -/
section
variable {g : Gl} {d : Nat} {h : Hp} {E : Ev} {B : Int → Int} {n : Int} {ip : Bool} {mo : Int} {Q : Hp → Prop}
def mFr (h h' : Hp) : Prop := (∀ a : Int, a ≠ 608 → ¬ (614 ≤ a ∧ a ≤ 624) → h' a = h a) ∧ ∀ j : Int, (j < 17 ∨ 28 < j) → j ≠ 7 → h' 608 j = h 608 j
theorem m_read_73f (mx : mX B n h) {f x : Int} {h1 : Hp} (F : MFt h f x h1) (q : ∀ h' : Hp, mFr h h' → h' 608 7 = 0 → h' 608 23 = x → h' 608 21 = f → Q h') : L0 g (d + 8) m10_read (retV Q) 73 [some (LR 10 608), none, none] h1 := by
  have n1 := mx.2.2.1
  have a0 := F.2.2.2.2.1
  have a2 := bl_10 (B := B) n1 a0 F.2.2.2.2.2
  refine v10_read_73 (m_blanks (F.1.mx mx) rfl a0 (fun h2 k2 => m_fine ?_))
  have F2 := F.ps k2 a2.1 a2.2
  rw [F2.2.1]
  refine bz (fun _ => v10_read_104 (fun h3 k3 => m_fine ?_)) (fun z => absurd z F2.2.2.2.1)
  have e3 : h3 608 21 = f := by rw [k3, hup_nj (by decide), F2.2.1]
  rw [e3]
  refine bz (fun _ h6 k6 => q h6 ⟨fun a c1 c2 => ?_, fun j c1 c2 => ?_⟩ ?_ ?_ ?_) (fun z => absurd z F2.2.2.2.1)
  · rw [k6, hup_r c1, k3, hup_r c1]; exact F2.1.1 a c1 c2
  · rw [k6, hup_nj (by omega), k3, hup_nj c2]; exact F2.1.2 j (by omega)
  · rw [k6, hup_nj (by decide), k3, hup_at]
  · rw [k6, hup_at, k3, hup_nj (by decide), F2.2.2.1]
  · rw [k6, hup_nj (by decide), e3]
theorem m_read (ok : okE E) (me : mE E h) (mx : mX B n h) (hm0 : 0 ≤ mo) (hmo : mo ≤ 120)
    (q1 : (rdA E B n ip mo).1 = 0 → ∀ h' : Hp, mFr h h' → h' 608 7 = 0 → h' 608 23 = -1 → h' 608 21 = 0 → mNd (rdA E B n ip mo).2.2 h' → (∀ i : Int, 0 ≤ i → i < ln (rdA E B n ip mo).2.2 → h' 622 i = i + sz (rdA E B n ip mo).2.2 i) → Q h')
    (q2 : (rdA E B n ip mo).1 ≠ 0 → ∀ h' : Hp, mFr h h' → h' 608 7 = 0 → h' 608 23 = (rdA E B n ip mo).2.1 → h' 608 21 = (rdA E B n ip mo).1 → Q h') : Good g (d + 9) i10_read [LR 10 608, LI (cb (ip = true)), LI mo] S0 h S0 (retV Q) := by
  have n0 := mx.2.1
  have n1 := mx.2.2.1
  refine g10_read (fun _ _ => v10_read ⟨cb_01 _, fun h1 e1 h2 e2 h3 e3 h4 e4 h5 e5 h6 e6 h7 e7 h8 e8 => ?_⟩)
  have r8 : ∀ b : Int, b ≠ 608 → h8 b = h b := fun b c1 => by rw [e8, hup_r c1, e7, hup_r c1, e6, hup_r c1, e5, hup_r c1, e4, hup_r c1, e3, hup_r c1, e2, hup_r c1, e1, hup_r c1]
  have f8 : ∀ j : Int, j ≠ 28 → j ≠ 27 → j ≠ 24 → j ≠ 21 → j ≠ 20 → j ≠ 17 → j ≠ 18 → j ≠ 19 → h8 608 j = h 608 j := fun j c1 c2 c3 c4 c5 c6 c7 c8 => by rw [e8, hup_nj c1, e7, hup_nj c2, e6, hup_nj c3, e5, hup_nj c4, e4, hup_nj c5, e3, hup_nj c6, e2, hup_nj c7, e1, hup_nj c8]
  have M8 : MSt h ip mo [] 0 [] (h 622) h8 := by
    refine ⟨⟨fun a c1 c2 => r8 a c1, fun j hj => f8 j (by omega) (by omega) (by omega) (by omega) (by omega) (by omega) (by omega) (by omega)⟩, ⟨?_, fun i i0 i1 => absurd i1 (by show ¬ i < 0; omega)⟩, ?_, ?_, ?_, ?_, ?_, ?_, trivial, fun i i0 i1 => absurd i1 (by show ¬ i < 0; omega)⟩
    · rw [e8, hup_nj (by decide), e7, hup_nj (by decide), e6, hup_nj (by decide), e5, hup_nj (by decide), e4, hup_nj (by decide), e3, hup_at]; rfl
    · rw [e8, hup_nj (by decide), e7, hup_nj (by decide), e6, hup_nj (by decide), e5, hup_nj (by decide), e4, hup_nj (by decide), e3, hup_nj (by decide), e2, hup_at]
    · rw [e8, hup_nj (by decide), e7, hup_nj (by decide), e6, hup_nj (by decide), e5, hup_nj (by decide), e4, hup_nj (by decide), e3, hup_nj (by decide), e2, hup_nj (by decide), e1, hup_at]
    · rw [e8, hup_nj (by decide), e7, hup_nj (by decide), e6, hup_nj (by decide), e5, hup_nj (by decide), e4, hup_at]
    · rw [e8, hup_nj (by decide), e7, hup_nj (by decide), e6, hup_nj (by decide), e5, hup_at]
    · rw [e8, hup_nj (by decide), e7, hup_nj (by decide), e6, hup_at]; rfl
    · rw [e8, hup_nj (by decide), e7, hup_at]; rfl
  have w8 : h8 608 28 = 1 := by rw [e8, hup_at]
  have r := rdN_ok (B := B) (n := n) (ip := ip) (mo := mo) ok 13 0 0 [] (by decide) (by decide) (by decide) n0 (show (0 : Int) ≤ mo from hm0)
  have S := sn (g := g) (D := d) (Qf := Q) (ip := ip) ok me mx hmo 13 0 [] [] (h 622) (by decide) (by decide) (by decide) n0 (fun i i0 i1 => absurd i1 (by show ¬ i < 0; omega)) (fun e he => by cases he) hm0
  unfold rdA at q1 q2
  simp only [List.length_nil] at S
  generalize hR : rdN E B n ip mo 13 0 0 [] = R at *
  have b1 := bl_p (B := B) (n := n) (p := R.2.1)
  have b1' := b1.2.1 r.2.1
  by_cases c : R.1 = 0
  · rw [if_neg (fun z => z c)] at q1 q2
    refine S.1 c (fun en' he h9 q9 q0 qn eq M9 w9 => ?_) h8 M8 (Or.inl w8)
    refine v10_read_40 (m_fine ?_)
    rw [M9.2.2.2.2.2.1]
    refine bz (fun z => absurd rfl z) (fun _ _ => ⟨fun z => absurd w9 z, fun _ => ⟨fun _ => ?_, fun z => absurd (show h9 608 27 ≤ 0 by rw [M9.2.2.2.2.2.2.2.1]; decide) z⟩⟩)
    refine v10_read_73 (m_blanks (M9.1.mx mx) M9.2.2.2.2.1 q0 (fun h10 k10 => m_fine ?_))
    rw [eq] at k10
    have M10 := M9.ps k10
    rw [M10.2.2.2.2.2.1]
    refine bz (fun z => absurd rfl z) (fun _ => ?_)
    rw [(M10.1.mx mx).1, M10.2.2.2.2.1]
    refine ⟨fun c2 => v10_read_104 (fun h11 k11 => m_fine ?_), fun c2 => m_wrong (fun _ h11 k11 => v10_read_104 (fun h12 k12 => m_fine ?_)) (fun z => absurd M10.2.2.2.2.2.1 z)⟩
    · rw [if_neg (by omega)] at q1
      have f11 : h11 608 21 = 0 := by rw [k11, hup_nj (by decide), M10.2.2.2.2.2.1]
      rw [f11]
      refine bz (fun z => absurd rfl z) (fun _ h13 k13 => q1 c h13 ⟨fun a c1 c2 => ?_, fun j c1 c2 => ?_⟩ ?_ ?_ ?_ ?_ (fun i i0 i1 => ?_))
      · rw [k13, hup_r c1, k11, hup_r c1]; exact M10.1.1 a c1 c2
      · rw [k13, hup_nj (by omega), k11, hup_nj c2]; exact M10.1.2 j (by omega)
      · rw [k13, hup_nj (by decide), k11, hup_at]
      · rw [k13, hup_at]
      · rw [k13, hup_nj (by decide), f11]
      · exact M10.2.1.to (by rw [k13, hup_nj (by decide), k11, hup_nj (by decide)]) (fun a _ _ => by rw [k13, hup_r (by omega), k11, hup_r (by omega)])
      · rw [k13, hup_ne (by decide), k11, hup_ne (by decide), M10.2.2.2.2.2.2.2.2.2 i i0 i1]
        exact he.2 i i0 i1
    · rw [if_pos (by omega)] at q2
      have f12 : h12 608 21 = 1 := by rw [k12, hup_nj (by decide), k11, hup_nj (by decide), hup_at]
      rw [f12]
      refine bz (fun _ h13 k13 => q2 (by simp) h13 ⟨fun a c1 c2 => ?_, fun j c1 c2 => ?_⟩ ?_ ?_ ?_) (fun z => absurd z (by decide))
      · rw [k13, hup_r c1, k12, hup_r c1, k11, hup_r c1, hup_r c1]; exact M10.1.1 a c1 c2
      · rw [k13, hup_nj (by omega), k12, hup_nj c2, k11, hup_nj (by omega), hup_nj (by omega)]; exact M10.1.2 j (by omega)
      · rw [k13, hup_nj (by decide), k12, hup_at]
      · rw [k13, hup_at, k12, hup_nj (by decide), k11, hup_at]
      · rw [k13, hup_nj (by decide), f12]
  · rw [if_pos c] at q2
    refine S.2 c (fun h9 F9 => v10_read_40 (m_fine ?_)) h8 M8 (Or.inl w8)
    rw [F9.2.1]
    exact bz (fun _ => m_read_73f mx F9 (q2 c)) (fun z => absurd z c)
end
