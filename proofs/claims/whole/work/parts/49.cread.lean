/-! THE CLASS'S READER: read -/
section
variable {g : Gl} {d : Nat} {h : Hp} {E : Ev} {B : Int → Int} {n : Int} {ip : Bool} {mo : Int} {Q : Int → Hp → Prop}
theorem c_read (ok : okE E) (ce : cE E h) (cx : cX 10 1000 B n h) (hm0 : 0 ≤ mo) (hmo : mo ≤ 120)
    (q1 : (rdA E B n ip mo).1 = 0 → ∀ h' : Hp, (∀ a : Int, a ≠ 597 → a ≠ 10 → ¬ (24 ≤ a ∧ a ≤ 31) → h' a = h a) → cN 24 (rdA E B n ip mo).2.2 h' → h' 10 1 = 0 → h' 597 8 = -1 → Q 0 h')
    (q2 : (rdA E B n ip mo).1 ≠ 0 → ∀ h' : Hp, (∀ a : Int, a ≠ 597 → a ≠ 10 → ¬ (24 ≤ a ∧ a ≤ 31) → h' a = h a) → h' 10 1 = 0 → h' 597 8 = (rdA E B n ip mo).2.1 → Q (rdA E B n ip mo).1 h') :
    Good g (d + 44) i7_read [LR 7 597, LI (cb (ip = true)), LI mo] S0 h S0 (retI Q) := by
  have n0 := cx.2.1
  have n1 := cx.2.2.1
  refine g7_read (fun _ _ => v7_read ⟨cb_01 _, fun h1 e1 h2 e2 h3 e3 h4 e4 h5 e5 h6 e6 => ?_⟩)
  have R6 : RSt h ip mo [] 0 h6 := by
    refine ⟨⟨fun a c1 c2 => ?_, ⟨?_, fun i i0 i1 => absurd i1 (by show ¬ i < 0; omega)⟩, ?_⟩, ?_, ?_, ?_, ?_⟩
    · rw [e6, hup_r (by omega), e5, hup_r c1, e4, hup_r c1, e3, hup_r c1, e2, hup_r c1, e1, hup_r c1]
    · rw [e6, hup_at]; rfl
    · rw [e6, hup_ne (by decide), e5, hup_nj (by decide), e4, hup_nj (by decide), e3, hup_nj (by decide), e2, hup_at]
    · rw [e6, hup_ne (by decide), e5, hup_nj (by decide), e4, hup_nj (by decide), e3, hup_nj (by decide), e2, hup_nj (by decide), e1, hup_at]
    · rw [e6, hup_ne (by decide), e5, hup_nj (by decide), e4, hup_nj (by decide), e3, hup_at]
    · rw [e6, hup_ne (by decide), e5, hup_nj (by decide), e4, hup_at]
    · rw [e6, hup_ne (by decide), e5, hup_at]
  have r := rdN_ok (B := B) (n := n) (ip := ip) (mo := mo) ok 13 0 0 [] (by decide) (by decide) (by decide) n0 (show (0 : Int) ≤ mo from hm0)
  have b1 := bl_p (B := B) (n := n) (p := (rdN E B n ip mo 13 0 0 []).2.1)
  have b1' := b1.2.1 r.2.1
  unfold rdA at q1 q2
  refine c_readNode (g := g) (ip := ip) (mo := mo) ok ce cx hmo 13 0 0 [] h6 d _ (by decide) (by decide) R6 (by decide) n0 hm0 ⟨fun c h7 R7 => ⟨fun z => absurd z (by decide), fun _ => ?_⟩, fun c h7 F7 => ⟨fun _ h11 e11 => ?_, fun z => absurd rfl z⟩⟩
  · rw [if_neg (fun z => z c)] at q1
    rw [if_neg (fun z => z c)] at q2
    refine c_skip cx R7 r.1 r.2.1 (fun h12 R12 _ => ?_)
    have X := R12.1.cx cx
    rw [X.1, R12.2.2.1]
    refine ⟨fun c2 h15 e15 => ?_, fun c2 => ?_⟩
    · rw [if_neg (by omega)] at q1
      rw [e15, hup_ne (by decide), R12.2.2.2.1]
      refine q1 c _ (fun a c1 c2 c3 => by rw [hup_r c2]; exact R12.1.1 a c1 c3) (R12.1.2.1.to (by rw [hup_ne (by decide)]) (fun k k0 k1 => hup_r (by omega))) hup_at (by rw [hup_ne (by decide)]; exact R12.2.2.2.2)
    · rw [if_pos (by omega)] at q2
      refine c_fail R12.1.1 (fun h16 F _ _ h19 e19 => ?_)
      rw [e19, hup_ne (by decide), F.2.1]
      refine q2 (by simp) _ (fun a c1 c2 c3 => by rw [hup_r c2]; exact F.1 a c1 c3) hup_at (by rw [hup_ne (by decide)]; exact F.2.2)
  · rw [if_pos c] at q2
    rw [e11, hup_ne (by decide), F7.2.1]
    refine q2 c _ (fun a c1 c2 c3 => by rw [hup_r c2]; exact F7.1 a c1 c3) hup_at (by rw [hup_ne (by decide)]; exact F7.2.2)
end
