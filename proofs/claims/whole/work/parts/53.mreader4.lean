/-! THE MODEL'S READER: holes, letters, nodes -/
/-- the last node is another -/
theorem mNd_set {L : NL} {x y : Nd} {h h' : Hp} (H : mNd (L ++ [x]) h) (e0 : h' 608 17 = h 608 17) (e : ∀ a i : Int, 614 ≤ a → a ≤ 621 → i ≠ ln L → h' a i = h a i) (x0 : h' 614 (ln L) = y 0) (x1 : h' 615 (ln L) = y 1) (x2 : h' 616 (ln L) = if y 0 = 1 then y 5 else 0) (x3 : h' 617 (ln L) = y 3) (x4 : h' 618 (ln L) = y 2) (x5 : h' 619 (ln L) = y 4) (x6 : y 4 = 1 → h' 620 (ln L) = y 5 ∧ h' 621 (ln L) = y 6) : mNd (L ++ [y]) h' := by
  refine mNd_app (h := h) (fun i i0 i1 => ?_) (by rw [e0, H.1, ln_app, ln_1]) e x0 x1 x2 x3 x4 x5 x6
  have := H.2 i i0 (by rw [ln_app, ln_1]; omega)
  rwa [nd_app0 i0 i1] at this
theorem mNd_last {L : NL} {x : Nd} {h : Hp} (H : mNd (L ++ [x]) h) : h 614 (ln L) = x 0 ∧ h 615 (ln L) = x 1 ∧ h 616 (ln L) = (if x 0 = 1 then x 5 else 0) ∧ h 617 (ln L) = x 3 ∧ h 618 (ln L) = x 2 ∧ h 619 (ln L) = x 4 := by
  have := H.2 (ln L) (ln_nn L) (by rw [ln_app, ln_1]; omega)
  rw [nd_app1] at this
  exact ⟨this.1, this.2.1, this.2.2.1, this.2.2.2.1, this.2.2.2.2.1, this.2.2.2.2.2.1⟩
/-- a state with other nodes -/
theorem MSt.nd {h0 : Hp} {ip : Bool} {mo : Int} {L L' : NL} {p q : Int} {s : Stk} {en : Int → Int} {h h' : Hp} (M : MSt h0 ip mo L p s en h) (m : mNd L' h') (hl : ln L' = ln L) (b : MBs h0 h') (hj : ∀ j : Int, j ≠ 20 → j ≠ 21 → j ≠ 22 → h' 608 j = h 608 j) (hq : h' 608 20 = q) (hf : h' 608 21 = 0) (hr : ∀ a : Int, 622 ≤ a → a ≤ 624 → h' a = h a) : MSt h0 ip mo L' q s en h' :=
  ⟨b, m, by rw [hj 18 (by decide) (by decide) (by decide)]; exact M.2.2.1, by rw [hj 19 (by decide) (by decide) (by decide)]; exact M.2.2.2.1, hq, hf, by rw [hj 24 (by decide) (by decide) (by decide)]; exact M.2.2.2.2.2.2.1, by rw [hj 27 (by decide) (by decide) (by decide)]; exact M.2.2.2.2.2.2.2.1, M.2.2.2.2.2.2.2.2.1.to (fun i _ => ⟨by rw [hr 623 (by decide) (by decide)], by rw [hr 624 (by decide) (by decide)]⟩), fun i i0 i1 => by rw [hr 622 (by decide) (by decide)]; exact M.2.2.2.2.2.2.2.2.2 i i0 (by omega)⟩
section
variable {g : Gl} {d : Nat} {h h0 : Hp} {E : Ev} {B : Int → Int} {n : Int} {ip : Bool} {mo : Int} {L : NL} {p : Int} {s : Stk} {en : Int → Int} {Q : Hp → Prop}
/-- what is owed for an outcome of a leaf -/
def LPo (h0 : Hp) (B : Int → Int) (n : Int) (ip : Bool) (mo : Int) (Q : Hp → Prop) (L : NL) (s : Stk) (en : Int → Int) (f p : Int) (x : Nd) : Prop := (f = 0 → MCl h0 B n ip mo Q (L ++ [x]) s (bl B n p) (fup en (ln L) (ln L + 1))) ∧ (f ≠ 0 → ∀ h : Hp, MFt h0 f p h → Q h)
theorem okL_app {x : Nd} (ol : okL E L) (ox : okN E x) : okL E (L ++ [x]) := by
  intro i i0 i1
  rw [ln_app, ln_1] at i1
  by_cases c : i < ln L
  · rw [nd_app0 i0 c]
    exact ol i i0 c
  · have c : i = ln L := by omega
    subst c
    rw [nd_app1]
    exact ox
theorem okS_app {x : Nd} (os : okS E L s) : okS E (L ++ [x]) s := fun e he => by
  have := os e he
  rw [nd_app0 this.1 this.2.1]
  exact ⟨this.1, by rw [ln_app, ln_1]; omega, this.2.2⟩
theorem m_end1 (ok : okE E) (me : mE E h0) (mx : mX B n h0) (ol : okL E L) {x : Nd} (ox : okN E x) (l9 : ln L < 120) (hs : s.length ≤ 100) (os : okS E L s) (p0 : 0 ≤ p) (p1 : p ≤ n) (M : MSt h0 ip mo (L ++ [x]) p s en h) (C : MCl h0 B n ip mo Q (L ++ [x]) s (bl B n p) (fup en (ln L) (ln L + 1))) : Good g (d + 2) i10_ended [LR 10 608, LI (ln L)] S0 h S0 (retV Q) :=
  m_ended ok me mx (okL_app ol ox) (by rw [ln_app, ln_1]; omega) (ln_nn L) (by rw [ln_app, ln_1]; omega) hs (okS_app os) p0 p1 M (by rw [ln_app, ln_1]; exact C)
theorem fup_fup {f : Int → Int} {i v w : Int} : fup (fup f i v) i w = fup f i w := by
  funext j
  unfold fup
  split <;> rfl
section
variable (ok : okE E) (me : mE E h0) (mx : mX B n h0) (ol : okL E L) (l9 : ln L < 120) (hs : s.length ≤ 100) (os : okS E L s)
/-- back at the end of a hole -/
theorem m_readHole_227 (ok : okE E) (me : mE E h0) (mx : mX B n h0) (ol : okL E L) (l9 : ln L < 120) (hs : s.length ≤ 100) (os : okS E L s) {x : Nd} (ox : okN E x) {q b : Int} (p0 : 0 ≤ b) (p1 : b ≤ n) (M : MSt h0 ip mo (L ++ [x]) q s en h) (C : MCl h0 B n ip mo Q (L ++ [x]) s (bl B n b) (fup en (ln L) (ln L + 1))) : L0 g (d + 6) m10_readHole (retV Q) 227 [some (LR 10 608), some (LI (ln L)), some (LI b), none, none, none, none] h := by
  refine v10_readHole_227 (fun h1 k1 => m_fine ?_)
  have M1 := M.ps k1
  rw [M1.2.2.2.2.2.1]
  exact bz (fun z => absurd rfl z) (fun _ => m_end1 ok me mx ol ox l9 hs os p0 p1 M1 C)
theorem m_readHole_227f {f x b y1 : Int} (p0 : 0 ≤ b) (p1 : b ≤ 1010) (M : MFt h0 f x h) (q : ∀ h : Hp, MFt h0 f x h → Q h) : L0 g (d + 6) m10_readHole (retV Q) 227 [some (LR 10 608), some (LI y1), some (LI b), none, none, none, none] h := by
  refine v10_readHole_227 (fun h1 k1 => m_fine ?_)
  have M1 := M.ps k1 p0 p1
  rw [M1.2.1]
  exact bz (fun _ => q h1 M1) (fun z => absurd z M1.2.2.2.1)
/-- from a span on: p is where it may stand, behind blanks; b where it goes on if there is none -/
theorem m_readHole_201 (ok : okE E) (me : mE E h0) (mx : mX B n h0) (ol : okL E L) (l9 : ln L < 120) (hs : s.length ≤ 100) (os : okS E L s) {kn nm : Int} (k0 : 0 ≤ kn) (k1 : kn < E 0 0) (m0 : -1 ≤ nm) (m1 : nm < 10) {q b : Int} (b0 : 0 ≤ b) (b1 : b ≤ n) (hb : bl B n b = bl B n q) (M : MSt h0 ip mo (L ++ [hoN kn nm 0 0 0]) (bl B n q) s en h) (C : LPo h0 B n ip mo Q L s en (hs2 B n nm kn q).1 (hs2 B n nm kn q).2.1 (hs2 B n nm kn q).2.2) : L0 g (d + 6) m10_readHole (retV Q) 201 [some (LR 10 608), some (LI (ln L)), some (LI b), none, none, none, none] h := by
  have n1 := mx.2.2.1
  have l0 := ln_nn L
  have bb := bl_p (B := B) (n := n) (p := b)
  have bb' := bb.2.1 b1
  refine v10_readHole_201 (m_fine ?_)
  rw [M.2.2.2.2.2.1]
  unfold hs2 at C
  refine bz (fun z => absurd rfl z) (fun _ => m_here (M.1.mx mx) M.2.2.2.2.1 (by omega) ⟨fun c => ?_, fun c => ?_⟩)
  · rw [if_neg c] at C
    have C := C.1 rfl
    simp only at C
    rw [bl_bl, ← hb] at C
    exact m_readHole_227 ok me mx ol l9 hs os (Or.inr (Or.inr (Or.inl ⟨rfl, rfl, k0, k1, m0, m1, Or.inl ⟨rfl, rfl, rfl⟩, rfl, rfl, rfl⟩))) b0 b1 M C
  · rw [if_pos c] at C
    have c3 := byt_in (B := B) (n := n) (i := bl B n q) (by omega)
    have r1 := spR_ok (B := B) (n := n) (p := bl B n q + 1) (by omega) (by omega)
    have base : ∀ {h' : Hp}, spF h h' (ln L) → MBs h0 h' := fun F => ⟨fun a c1 c2 => by
        by_cases z : a = 619 ∨ a = 620 ∨ a = 621
        · exact absurd ⟨by omega, by omega⟩ c2
        · rw [F.1 a c1 (by omega) (by omega) (by omega)]; exact M.1.1 a c1 c2, fun j hj => by rw [F.2.2 j (by omega) (by omega) (by omega)]; exact M.1.2 j hj⟩
    refine m_readSpan (M.1.mx mx) l0 (by omega) M.2.2.2.2.1 (by omega) c3.2.1 M.2.2.2.2.2.1 (fun c4 h' r F e0 r0 rn er ef e1 e2 e3 => ?_) (fun c4 h' F e1 e2 e3 e4 => ?_)
    · rw [if_neg (fun z => z c4)] at C
      have C := C.1 rfl
      simp only at C
      rw [← er, bl_bl] at C
      have ml := mNd_last M.2.1
      have m' : mNd (L ++ [hoN kn nm 1 (spR B n (bl B n q + 1)).2.2.1 (spR B n (bl B n q + 1)).2.2.2]) h' := by
        refine mNd_set M.2.1 (F.2.2 17 (by decide) (by decide) (by decide)) (fun a i c1 c2 c3 => F.2.1 a i (by omega) c3) ?_ ?_ ?_ ?_ ?_ e1 (fun _ => ⟨e2, e3⟩)
        · rw [F.1 614 (by decide) (by decide) (by decide) (by decide)]; exact ml.1
        · rw [F.1 615 (by decide) (by decide) (by decide) (by decide)]; exact ml.2.1
        · rw [F.1 616 (by decide) (by decide) (by decide) (by decide), ml.2.2.1]; rfl
        · rw [F.1 617 (by decide) (by decide) (by decide) (by decide)]; exact ml.2.2.2.1
        · rw [F.1 618 (by decide) (by decide) (by decide) (by decide)]; exact ml.2.2.2.2.1
      have M' : MSt h0 ip mo (L ++ [hoN kn nm 1 (spR B n (bl B n q + 1)).2.2.1 (spR B n (bl B n q + 1)).2.2.2]) r s en h' := M.nd m' (by rw [ln_app, ln_app]; rfl) (base F) F.2.2 e0 ef (fun a c1 c2 => F.1 a (by omega) (by omega) (by omega) (by omega))
      rw [e0]
      exact m_readHole_227 ok me mx ol l9 hs os (Or.inr (Or.inr (Or.inl ⟨rfl, rfl, k0, k1, m0, m1, Or.inr ⟨rfl, r1.2.2.2.1, r1.2.2.2.2.1, r1.2.2.2.2.2.1, r1.2.2.2.2.2.2⟩, rfl, rfl, rfl⟩))) r0 rn M' C
    · rw [if_pos c4] at C
      exact m_readHole_227f e3 e4 ⟨base F, e1, e2, c4, e3, e4⟩ (C.2 c4)
theorem m_readHole_57 (ok : okE E) (me : mE E h0) (mx : mX B n h0) (ol : okL E L) (l9 : ln L < 120) (hs : s.length ≤ 100) (os : okS E L s) {nm : Int} (m0 : -1 ≤ nm) (m1 : nm < 10) {q : Int} (b0 : 0 ≤ q) (b1 : q ≤ n) (M : MSt h0 ip mo (L ++ [hoN 0 nm 0 0 0]) q s en h) (C : LPo h0 B n ip mo Q L s en (hs1 E B n nm q).1 (hs1 E B n nm q).2.1 (hs1 E B n nm q).2.2) : L0 g (d + 6) m10_readHole (retV Q) 57 [some (LR 10 608), some (LI (ln L)), none, none, none, none, none] h := by
  have n1 := mx.2.2.1
  have o1 := ok.1
  have o2 := ok.2.1
  have l0 := ln_nn L
  have bb := bl_p (B := B) (n := n) (p := q)
  have bb' := bb.2.1 b1
  refine v10_readHole_57 (m_blanks (M.1.mx mx) M.2.2.2.2.1 b0 (fun h1 k1 => ?_))
  have M1 := M.ps k1
  rw [M.2.2.2.2.1]
  unfold hs1 at C
  refine m_here (M1.1.mx mx) M1.2.2.2.2.1 (by omega) ⟨fun c => ?_, fun c h7 k7 => ?_⟩
  · rw [if_neg c] at C
    have M1' : MSt h0 ip mo (L ++ [hoN 0 nm 0 0 0]) (bl B n (bl B n q)) s en h1 := by rw [bl_bl]; exact M1
    exact m_readHole_201 ok me mx ol l9 hs os (by decide) (by omega) m0 m1 b0 b1 (by rw [bl_bl]) M1' C
  · rw [if_pos c] at C
    have c3 := byt_in (B := B) (n := n) (i := bl B n q) (by omega)
    rw [M1.2.2.2.2.1, w32_id (by omega) (by omega)] at k7
    have M7 := M1.ps k7
    have b2 := bl_p (B := B) (n := n) (p := bl B n q + 1)
    have b2' := b2.2.1 (by omega)
    refine m_blanks (M7.1.mx mx) M7.2.2.2.2.1 (by omega) (fun h8 k8 => ?_)
    have M8 := M7.ps k8
    have hd := dg_p (B := B) (n := n) (p := bl B n (bl B n q + 1))
    have hd2 := hd.2.1 b2'
    rw [M8.2.2.2.2.1]
    refine m_digitsFrom (M8.1.mx mx) (by omega) (by omega) ?_
    rw [M8.2.2.2.2.1]
    -- a fault: on to the end
    have bad : ∀ {h15 : Hp} {f y : Int} {r4 y3 : Int}, MFt h0 f y h15 → (∀ h : Hp, MFt h0 f y h → Q h) → L0 g (d + 6) m10_readHole (retV Q) 135 [some (LR 10 608), some (LI (ln L)), none, some (LI y3), some (LI r4), none, none] h15 := by
      intro h15 f y r4 y3 F q
      refine v10_readHole_135 (m_fine ?_)
      rw [F.2.1]
      refine bz (fun _ => v10_readHole_153 (m_fine ?_)) (fun z => absurd z F.2.2.2.1)
      rw [F.2.1]
      refine bz (fun _ => v10_readHole_183 ⟨l0, by omega, fun h16 k16 => ?_⟩) (fun z => absurd z F.2.2.2.1)
      have F16 := F.r (by decide) k16
      have a0 := F16.2.2.2.2.1
      have a1 := F16.2.2.2.2.2
      have a2 := bl_10 (B := B) n1 a0 a1
      refine m_blanks (F16.1.mx mx) rfl a0 (fun h17 k17 => v10_readHole_201 (m_fine ?_))
      have F17 := F16.ps k17 a2.1 a2.2
      rw [F17.2.1]
      exact bz (fun _ => m_readHole_227f a0 a1 F17 q) (fun z => absurd z F17.2.2.2.1)
    refine ⟨fun c4 => ⟨fun c5 => ?_, fun c5 => m_wrong (fun _ h15 k15 => ?_) (fun z => absurd M8.2.2.2.2.2.1 z)⟩, fun c4 => m_wrong (fun _ h17 k17 => ?_) (fun z => absurd M8.2.2.2.2.2.1 z)⟩
    · have kr : ∀ {A : Int × Int × Int}, knR E B n (bl B n q + 1) = A → A = (if ¬ vl B (dg B n (bl B n (bl B n q + 1)) - bl B n (bl B n q + 1)).toNat 0 (bl B n (bl B n q + 1)) < E 0 0 then (3, bl B n (bl B n q + 1), 0) else (0, dg B n (bl B n (bl B n q + 1)), vl B (dg B n (bl B n (bl B n q + 1)) - bl B n (bl B n q + 1)).toNat 0 (bl B n (bl B n q + 1)))) := by
        intro A hA
        rw [← hA]
        unfold knR
        rw [if_neg (by omega), if_neg (by omega)]
      have kr := kr rfl
      have hv := vl_18 (B := B) (q := bl B n (bl B n q + 1)) (e := dg B n (bl B n (bl B n q + 1))) (by omega) hd.1 hd.2.2
      refine v10_readHole_135 (m_fine ?_)
      rw [M8.2.2.2.2.2.1]
      refine bz (fun z => absurd rfl z) (fun _ => ?_)
      have X := m_digits (g := g) (d := d + 5) (h := h8) (p := bl B n (bl B n q + 1)) (k := (dg B n (bl B n (bl B n q + 1)) - bl B n (bl B n q + 1)).toNat) (Q := fun r7 h5 => L0 g (d + 6) m10_readHole (retV Q) 153 [some (LR 10 608), some (LI (ln L)), none, none, some (LI (bl B n (bl B n q + 1))), some (LL r7), none] h5) (M8.1.mx mx) M8.2.2.2.2.1 (by omega) (by omega) (by omega) (fun i i0 i1 => hd.2.2 i i0 (by omega)) (fun h5 k5 => ?_)
      · rwa [show (((dg B n (bl B n (bl B n q + 1)) - bl B n (bl B n q + 1)).toNat : Nat) : Int) = dg B n (bl B n (bl B n q + 1)) - bl B n (bl B n q + 1) by omega] at X
      · rw [show bl B n (bl B n q + 1) + (((dg B n (bl B n (bl B n q + 1)) - bl B n (bl B n q + 1)).toNat : Nat) : Int) = dg B n (bl B n (bl B n q + 1)) by omega] at k5
        have M5 := M8.ps k5
        refine v10_readHole_153 (m_fine ?_)
        rw [M5.2.2.2.2.2.1]
        refine bz (fun z => absurd rfl z) (fun _ => m_in ?_)
        rw [(M5.1.me me).1, w32_id (by omega) (by omega)]
        refine bn (fun c6 => ?_) (fun c6 => m_wrong (fun _ h9 k9 => ?_) (fun z => absurd M5.2.2.2.2.2.1 z))
        · rw [if_neg (fun z => z (by omega))] at kr
          rw [kr] at C
          rw [if_neg (fun z => z rfl)] at C
          refine v10_readHole_183 ⟨l0, by omega, fun h10 k10 => ?_⟩
          rw [w32_id (by omega) (by omega)] at k10
          have ml := mNd_last M5.2.1
          have M10 : MSt h0 ip mo (L ++ [hoN (vl B (dg B n (bl B n (bl B n q + 1)) - bl B n (bl B n q + 1)).toNat 0 (bl B n (bl B n q + 1))) nm 0 0 0]) (dg B n (bl B n (bl B n q + 1))) s en h10 := by
            refine M5.nd (mNd_set M5.2.1 (by rw [k10, hup_ne (by decide)]) (fun a i c1 c2 c3 => by rw [k10, hup_nj c3]) ?_ ?_ ?_ ?_ (by rw [k10, hup_at]; rfl) ?_ (fun z => absurd z (by show ¬ (0 : Int) = 1; decide))) (by rw [ln_app, ln_app]; rfl) (by rw [k10]; exact M5.1.r (by decide)) (fun j _ _ _ => by rw [k10, hup_ne (by decide)]) (by rw [k10, hup_ne (by decide)]; exact M5.2.2.2.2.1) (by rw [k10, hup_ne (by decide)]; exact M5.2.2.2.2.2.1) (fun a c1 c2 => by rw [k10, hup_r (by omega)])
            · rw [k10, hup_ne (by decide)]; exact ml.1
            · rw [k10, hup_ne (by decide)]; exact ml.2.1
            · rw [k10, hup_ne (by decide), ml.2.2.1]; rfl
            · rw [k10, hup_ne (by decide)]; exact ml.2.2.2.1
            · rw [k10, hup_ne (by decide)]; exact ml.2.2.2.2.2
          rw [M10.2.2.2.2.1]
          refine m_blanks (M10.1.mx mx) M10.2.2.2.2.1 (by omega) (fun h11 k11 => ?_)
          exact m_readHole_201 ok me mx ol l9 hs os hv.1 (by omega) m0 m1 (by omega) hd2 rfl (M10.ps k11) C
        · rw [if_pos (by omega)] at kr
          rw [kr] at C
          rw [if_pos (by simp)] at C
          have F := M5.mf (by omega) (by omega) (by decide) k9
          refine v10_readHole_183 ⟨l0, by omega, fun h16 k16 => ?_⟩
          have F16 := F.r (by decide) k16
          have a0 := F16.2.2.2.2.1
          have a1 := F16.2.2.2.2.2
          have a2 := bl_10 (B := B) n1 a0 a1
          refine m_blanks (F16.1.mx mx) rfl a0 (fun h17 k17 => v10_readHole_201 (m_fine ?_))
          have F17 := F16.ps k17 a2.1 a2.2
          rw [F17.2.1]
          exact bz (fun _ => m_readHole_227f a0 a1 F17 (C.2 (by simp))) (fun z => absurd z F17.2.2.2.1)
    · have kr : knR E B n (bl B n q + 1) = (3, bl B n (bl B n q + 1), 0) := by
        unfold knR
        rw [if_neg (by omega), if_pos (by omega)]
      rw [kr] at C
      rw [if_pos (by simp)] at C
      exact bad (M8.mf (by omega) (by omega) (by decide) k15) (C.2 (by simp))
    · have kr : knR E B n (bl B n q + 1) = (1, bl B n (bl B n q + 1), 0) := by
        unfold knR
        rw [if_pos (by omega)]
      rw [kr] at C
      rw [if_pos (by simp)] at C
      exact bad (M8.mf (by omega) (by omega) (by decide) k17) (C.2 (by simp))
end
end
