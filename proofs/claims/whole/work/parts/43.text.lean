/-! TEXTS: B the bytes, n how many; the class's Text at t with room c; the model's tape (613) and out (660) -/
def cX (t c : Int) (B : Int → Int) (n : Int) (h : Hp) : Prop := h t 1 = n ∧ 0 ≤ n ∧ n ≤ c ∧ ∀ i : Int, 0 ≤ i → i < n → h (t + 1) i = B i ∧ 0 ≤ B i ∧ B i < 256
def mX (B : Int → Int) (n : Int) (h : Hp) : Prop := h 608 7 = n ∧ 0 ≤ n ∧ n ≤ 1000 ∧ ∀ i : Int, 0 ≤ i → i < n → h 613 i = w8 (B i) ∧ 0 ≤ B i ∧ B i < 256
def mO (B : Int → Int) (n : Int) (h : Hp) : Prop := h 608 76 = n ∧ 0 ≤ n ∧ n ≤ 3000 ∧ ∀ i : Int, 0 ≤ i → i < n → h 660 i = B i ∧ 0 ≤ B i ∧ B i < 128
theorem cX.to {t c n : Int} {B : Int → Int} {h h' : Hp} (H : cX t c B n h) (e0 : h' t 1 = h t 1) (e : h' (t + 1) = h (t + 1)) : cX t c B n h' := by
  unfold cX at *
  rw [e0, e]
  exact H
theorem mX.to {n : Int} {B : Int → Int} {h h' : Hp} (H : mX B n h) (e0 : h' 608 7 = h 608 7) (e : h' 613 = h 613) : mX B n h' := by
  unfold mX at *
  rw [e0, e]
  exact H
theorem mO.to {n : Int} {B : Int → Int} {h h' : Hp} (H : mO B n h) (e0 : h' 608 76 = h 608 76) (e : h' 660 = h 660) : mO B n h' := by
  unfold mO at *
  rw [e0, e]
  exact H
def push (B : Int → Int) (n v : Int) : Int → Int := fun i => if i = n then v else B i
/-- byte of a number, at a shift -/
def bt (x s : Int) : Int := iandI (iushrI x s) 255
def ap4 (B : Int → Int) (n x : Int) : Int → Int := push (push (push (push B n (bt x 24)) (n + 1) (bt x 16)) (n + 2) (bt x 8)) (n + 3) (bt x 0)
theorem i32_and_255 (v : Int32) : 0 ≤ (v &&& 255).toInt ∧ (v &&& 255).toInt < 256 := by
  have e : (v &&& 255).toBitVec.toNat = v.toBitVec.toNat % 256 := by
    rw [Int32.toBitVec_and, BitVec.toNat_and]
    exact Nat.and_two_pow_sub_one_eq_mod _ 8
  have e2 : (v &&& 255).toInt = (v &&& 255).toBitVec.toInt := rfl
  rw [e2, BitVec.toInt_eq_toNat_cond, e, if_pos (by omega)]
  omega
theorem byte_low (x : Int32) : (x &&& 255).toInt8 = x.toInt8 := by
  apply Int8.toBitVec_inj.1
  rw [Int32.toBitVec_toInt8, Int32.toBitVec_toInt8]
  apply BitVec.eq_of_getLsbD_eq
  intro i hi
  have h2 : (255 : Int32).toBitVec.getLsbD i = true := by
    have : ∀ j : Fin 8, (255 : Int32).toBitVec.getLsbD j.val = true := by decide +kernel
    exact this ⟨i, hi⟩
  have h3 : i < 32 := by omega
  rw [BitVec.getLsbD_signExtend, BitVec.getLsbD_signExtend, if_pos h3, if_pos h3, Int32.toBitVec_and, BitVec.getLsbD_and, h2, Bool.and_true]
theorem byte_shr (x w : Int32) (n : Nat) (hn : n ≤ 24) (h1 : ((w &&& 31).toBitVec.smod 32).toNat = n) (h2 : ((w.toUInt32 &&& Int32.toUInt32 31).toBitVec % 32).toNat = n) : (x >>> (w &&& 31)).toInt8 = ((x.toUInt32 >>> (w.toUInt32 &&& Int32.toUInt32 31)).toInt32).toInt8 := by
  apply Int8.toBitVec_inj.1
  rw [Int32.toBitVec_toInt8, Int32.toBitVec_toInt8]
  apply BitVec.eq_of_getLsbD_eq
  intro i hi
  have h3 : i < 32 := by omega
  rw [BitVec.getLsbD_signExtend, BitVec.getLsbD_signExtend, if_pos h3, if_pos h3, Int32.toBitVec_shiftRight]
  show _ = (_ && (x.toUInt32 >>> (w.toUInt32 &&& Int32.toUInt32 31)).toBitVec.getLsbD i)
  rw [UInt32.toBitVec_shiftRight]
  show (_ && (x.toBitVec.sshiftRight ((w &&& 31).toBitVec.smod 32).toNat).getLsbD i) = (_ && (x.toUInt32.toBitVec >>> ((w.toUInt32 &&& Int32.toUInt32 31).toBitVec % 32).toNat).getLsbD i)
  rw [h1, h2, BitVec.getLsbD_ushiftRight, BitVec.getLsbD_sshiftRight]
  have h4 : n + i < 32 := by omega
  have h5 : ¬ 32 ≤ i := by omega
  simp [h4, h3, h5]
theorem bt_in (x s : Int) : 0 ≤ bt x s ∧ bt x s < 256 := i32_and_255 _
theorem w8_bt (x s : Int) (hs : s = 24 ∨ s = 16 ∨ s = 8 ∨ s = 0) : w8 (ishrI x s) = w8 (bt x s) := by
  have key : ∀ v w : Int32, (w = 24 ∨ w = 16 ∨ w = 8 ∨ w = 0) → (v >>> (w &&& 31)).toInt8 = ((v.toUInt32 >>> (w.toUInt32 &&& Int32.toUInt32 31)).toInt32 &&& 255).toInt8 := by
    intro v w hw
    rw [byte_low]
    rcases hw with rfl | rfl | rfl | rfl
    · exact byte_shr v 24 24 (by decide) (by decide +kernel) (by decide +kernel)
    · exact byte_shr v 16 16 (by decide) (by decide +kernel) (by decide +kernel)
    · exact byte_shr v 8 8 (by decide) (by decide +kernel) (by decide +kernel)
    · exact byte_shr v 0 0 (by decide) (by decide +kernel) (by decide +kernel)
  have := key (Int32.ofInt x) (Int32.ofInt s) (by rcases hs with rfl | rfl | rfl | rfl <;> decide)
  unfold w8 bt ishrI iandI iushrI
  rw [Int32.ofInt_toInt, Int32.ofInt_toInt, Int32.ofInt_toInt, this]
  rfl
theorem w8_s {b : Int} (h0 : 0 ≤ b) (h1 : b < 256) : w8 b = if b < 128 then b else b - 256 := by
  have key : ∀ n : Nat, n < 256 → w8 (n : Int) = if (n : Int) < 128 then (n : Int) else n - 256 := by decide +kernel
  have := key b.toNat (by omega)
  rwa [show ((b.toNat : Nat) : Int) = b by omega] at this
theorem and_w8 {b : Int} (h0 : 0 ≤ b) (h1 : b < 256) : iandI (w8 b) 255 = b := by
  have key : ∀ n : Nat, n < 256 → iandI (w8 (n : Int)) 255 = n := by decide +kernel
  have := key b.toNat (by omega)
  rwa [show ((b.toNat : Nat) : Int) = b by omega] at this
theorem push_cX {t c n v : Int} {B : Int → Int} {h : Hp} (H : cX t c B n h) (hn : n < c) (v0 : 0 ≤ v) (v1 : v < 256) {h' : Hp} (e : h' t 1 = n + 1) (ea : h' (t + 1) n = v) (eb : ∀ i : Int, i ≠ n → h' (t + 1) i = h (t + 1) i) : cX t c (push B n v) (n + 1) h' := by
  refine ⟨e, by have := H.2.1; omega, by omega, fun i i0 i1 => ?_⟩
  by_cases c : i = n
  · subst c
    unfold push
    rw [if_pos rfl]
    exact ⟨ea, v0, v1⟩
  · unfold push
    rw [if_neg c, eb i c]
    exact H.2.2.2 i i0 (by omega)
theorem push_mX {n v : Int} {B : Int → Int} {h : Hp} (H : mX B n h) (hn : n < 1000) (v0 : 0 ≤ v) (v1 : v < 256) {h' : Hp} (e : h' 608 7 = n + 1) (ea : h' 613 n = w8 v) (eb : ∀ i : Int, i ≠ n → h' 613 i = h 613 i) : mX (push B n v) (n + 1) h' := by
  refine ⟨e, by have := H.2.1; omega, by omega, fun i i0 i1 => ?_⟩
  by_cases c : i = n
  · subst c
    unfold push
    rw [if_pos rfl]
    exact ⟨ea, v0, v1⟩
  · unfold push
    rw [if_neg c, eb i c]
    exact H.2.2.2 i i0 (by omega)
section
variable {g : Gl} {d : Nat} {h : Hp} {B : Int → Int} {n : Int}
theorem f_byteAt {Q : Int → Hp → Prop} {t c x : Int} (ht : 4 ≤ t) (hc : lnn g (t + 1) = c) (H : cX t c B n h) (q1 : 0 ≤ x → x < n → Q (B x) h) (q2 : ¬ (0 ≤ x ∧ x < n) → Q (-1) h) : Good g (d + 1) i8_byteAt [LR 8 t, LI x] S0 h S0 (retI Q) := by
  refine g8_byteAt (fun _ _ => v8_byteAt ht ⟨fun c => q2 (by omega), fun c => ?_⟩)
  rw [H.1]
  have := H.2.2.1
  refine ⟨fun c2 => q2 (by omega), fun c2 => ⟨by omega, by omega, ?_⟩⟩
  rw [(H.2.2.2 x (by omega) (by omega)).1]
  exact q1 (by omega) (by omega)
theorem f_add {Q : Hp → Prop} {t c v : Int} (ht : 4 ≤ t) (hc : lnn g (t + 1) = c) (c9 : c ≤ 5000) (H : cX t c B n h) (hn : n < c) (v0 : 0 ≤ v) (v1 : v < 256) (q : ∀ h' : Hp, cX t c (push B n v) (n + 1) h' → (∀ a : Int, a ≠ t → a ≠ t + 1 → h' a = h a) → Q h') : Good g (d + 1) i8_add [LR 8 t, LI v] S0 h S0 (retV Q) := by
  have n0 := H.2.1
  refine g8_add (fun _ _ => v8_add ht ?_)
  rw [hc, H.1]
  refine ⟨fun c => absurd c (by omega), fun _ => ⟨n0, hn, fun h2 e2 h3 e3 => ?_⟩⟩
  have a1 : h2 t 1 = n := by rw [e2, hup_ne (by omega), H.1]
  rw [a1, w32_id (by omega) (by omega)] at e3
  refine q h3 (push_cX H hn v0 v1 (by rw [e3, hup_at]) (by rw [e3, hup_ne (by omega), e2, hup_at]) (fun i hi => by rw [e3, hup_ne (by omega), e2, hup_nj hi])) (fun a c1 c2 => by rw [e3, hup_r c1, e2, hup_r c2])
theorem f_addFour {Q : Hp → Prop} {x : Int} (H : cX 10 1000 B n h) (hn : n + 4 ≤ 1000) (q : ∀ h' : Hp, cX 10 1000 (ap4 B n x) (n + 4) h' → (∀ a : Int, a ≠ 10 → a ≠ 11 → h' a = h a) → Q h') : Good g (d + 2) i8_addFour [LR 8 10, LI x] S0 h S0 (retV Q) := by
  refine g8_addFour (fun _ => v8_addFour (v8_addFour_3 ⟨fun c => absurd c (by decide), fun _ => ?_⟩))
  refine f_add (c := 1000) (by decide) rfl (by decide) H (by omega) (bt_in x 24).1 (bt_in x 24).2 (fun h1 H1 F1 => v8_addFour_3 ⟨fun c => absurd c (by decide), fun _ => ?_⟩)
  refine f_add (c := 1000) (by decide) rfl (by decide) H1 (by omega) (bt_in x 16).1 (bt_in x 16).2 (fun h2 H2 F2 => v8_addFour_3 ⟨fun c => absurd c (by decide), fun _ => ?_⟩)
  rw [show n + 1 + 1 = n + 2 by omega] at H2
  refine f_add (c := 1000) (by decide) rfl (by decide) H2 (by omega) (bt_in x 8).1 (bt_in x 8).2 (fun h3 H3 F3 => v8_addFour_3 ⟨fun c => absurd c (by decide), fun _ => ?_⟩)
  rw [show n + 2 + 1 = n + 3 by omega] at H3
  refine f_add (c := 1000) (by decide) rfl (by decide) H3 (by omega) (bt_in x 0).1 (bt_in x 0).2 (fun h4 H4 F4 => v8_addFour_3 ⟨fun _ => ?_, fun c => absurd (show w32 (w32 (w32 (w32 (24 + -8) + -8) + -8) + -8) < 0 by decide) c⟩)
  rw [show n + 3 + 1 = n + 4 by omega] at H4
  exact q h4 H4 (fun a c1 c2 => by rw [F4 a c1 c2, F3 a c1 c2, F2 a c1 c2, F1 a c1 c2])
theorem m_four {Q : Hp → Prop} {x : Int} (H : mX B n h) (hn : n + 4 ≤ 1000) (q : ∀ h' : Hp, mX (ap4 B n x) (n + 4) h' → (∀ a : Int, a ≠ 608 → a ≠ 613 → h' a = h a) → (∀ j : Int, j ≠ 7 → h' 608 j = h 608 j) → Q h') : Good g (d + 1) i10_four [LR 10 608, LI x] S0 h S0 (retV Q) := by
  have n0 := H.2.1
  have step : ∀ {B : Int → Int} {n s : Int} {h : Hp}, mX B n h → n < 1000 → (s = 24 ∨ s = 16 ∨ s = 8 ∨ s = 0) → ∀ {h2 h3 : Hp}, h2 = hup h 613 (h 608 7) (w8 (ishrI x s)) → h3 = hup h2 608 7 (w32 ((h2 608 7) + 1)) → mX (push B n (bt x s)) (n + 1) h3 ∧ (∀ a : Int, a ≠ 608 → a ≠ 613 → h3 a = h a) ∧ (∀ j : Int, j ≠ 7 → h3 608 j = h 608 j) := by
    intro B n s h H hn hs h2 h3 e2 e3
    have n0 := H.2.1
    have a1 : h2 608 7 = n := by rw [e2, hup_ne (by decide), H.1]
    rw [a1, w32_id (by omega) (by omega)] at e3
    rw [H.1, w8_bt x s hs] at e2
    refine ⟨push_mX H hn (bt_in x s).1 (bt_in x s).2 (by rw [e3, hup_at]) (by rw [e3, hup_ne (by decide), e2, hup_at]) (fun i hi => by rw [e3, hup_ne (by decide), e2, hup_nj hi]), fun a c1 c2 => by rw [e3, hup_r c1, e2, hup_r c2], fun j hj => by rw [e3, hup_nj hj, e2, hup_ne (by decide)]⟩
  refine g10_four (fun _ => v10_four (v10_four_2 ⟨fun c => absurd c (by decide), fun _ => ⟨by rw [H.1]; omega, by rw [H.1]; omega, fun h1 e1 h2 e2 => ?_⟩⟩))
  obtain ⟨H1, F1, G1⟩ := step (s := 24) H (by omega) (by decide) e1 e2
  refine v10_four_2 ⟨fun c => absurd c (by decide), fun _ => ⟨by rw [H1.1]; omega, by rw [H1.1]; omega, fun h3 e3 h4 e4 => ?_⟩⟩
  obtain ⟨H2, F2, G2⟩ := step (s := 16) H1 (by omega) (by decide) e3 e4
  refine v10_four_2 ⟨fun c => absurd c (by decide), fun _ => ⟨by rw [H2.1]; omega, by rw [H2.1]; omega, fun h5 e5 h6 e6 => ?_⟩⟩
  rw [show n + 1 + 1 = n + 2 by omega] at H2
  obtain ⟨H3, F3, G3⟩ := step (s := 8) H2 (by omega) (by decide) e5 e6
  rw [show n + 2 + 1 = n + 3 by omega] at H3
  refine v10_four_2 ⟨fun c => absurd c (by decide), fun _ => ⟨by rw [H3.1]; omega, by rw [H3.1]; omega, fun h7 e7 h8 e8 => ?_⟩⟩
  obtain ⟨H4, F4, G4⟩ := step (s := 0) H3 (by omega) (by decide) e7 e8
  rw [show n + 3 + 1 = n + 4 by omega] at H4
  exact v10_four_2 ⟨fun _ => q _ H4 (fun a c1 c2 => by rw [F4 a c1 c2, F3 a c1 c2, F2 a c1 c2, F1 a c1 c2]) (fun j hj => by rw [G4 j hj, G3 j hj, G2 j hj, G1 j hj]), fun c => absurd (show w32 (w32 (w32 (w32 (3 + -1) + -1) + -1) + -1) < 0 by decide) c⟩
def ap20 (B : Int → Int) (n a b c d e : Int) : Int → Int := ap4 (ap4 (ap4 (ap4 (ap4 B n a) (n + 4) b) (n + 8) c) (n + 12) d) (n + 16) e
theorem x_feed {Q : Int → Hp → Prop} {x1 x2 x3 x4 x5 : Int} (H : cX 10 1000 B n h) (q1 : n ≤ 980 → ∀ h' : Hp, cX 10 1000 (ap20 B n x1 x2 x3 x4 x5) (n + 20) h' → (∀ a : Int, a ≠ 10 → a ≠ 11 → h' a = h a) → Q (n + 20) h') (q2 : ¬ n ≤ 980 → Q (-1004) h) : Good g (d + 3) i9_feed [LR 9 4, LI x1, LI x2, LI x3, LI x4, LI x5] S0 h S0 (retI Q) := by
  refine g9_feed (fun _ _ _ _ _ => v9_feed ?_)
  rw [H.1]
  refine ⟨fun c => ?_, q2⟩
  refine f_addFour H (by omega) (fun h1 H1 F1 => ?_)
  refine f_addFour H1 (by omega) (fun h2 H2 F2 => ?_)
  rw [show n + 4 + 4 = n + 8 by omega] at H2
  refine f_addFour H2 (by omega) (fun h3 H3 F3 => ?_)
  rw [show n + 8 + 4 = n + 12 by omega] at H3
  refine f_addFour H3 (by omega) (fun h4 H4 F4 => ?_)
  rw [show n + 12 + 4 = n + 16 by omega] at H4
  refine f_addFour H4 (by omega) (fun h5 H5 F5 => ?_)
  rw [show n + 16 + 4 = n + 20 by omega] at H5
  rw [H5.1]
  exact q1 c h5 H5 (fun a c1 c2 => by rw [F5 a c1 c2, F4 a c1 c2, F3 a c1 c2, F2 a c1 c2, F1 a c1 c2])
theorem y_feed {Q : Int → Hp → Prop} {x1 x2 x3 x4 x5 : Int} (H : mX B n h) (q1 : n ≤ 980 → ∀ h' : Hp, mX (ap20 B n x1 x2 x3 x4 x5) (n + 20) h' → (∀ a : Int, a ≠ 608 → a ≠ 613 → h' a = h a) → (∀ j : Int, j ≠ 7 → h' 608 j = h 608 j) → Q (n + 20) h') (q2 : ¬ n ≤ 980 → Q (-1004) h) : Good g (d + 2) i10_feed [LR 10 608, LI x1, LI x2, LI x3, LI x4, LI x5] S0 h S0 (retI Q) := by
  have n0 := H.2.1
  have n1 := H.2.2.1
  refine g10_feed (fun _ _ _ _ _ => v10_feed ?_)
  rw [H.1, w32_id (by omega) (by omega)]
  refine ⟨fun c => ?_, fun c => q2 (by omega)⟩
  refine m_four H (by omega) (fun h1 H1 F1 G1 => ?_)
  refine m_four H1 (by omega) (fun h2 H2 F2 G2 => ?_)
  rw [show n + 4 + 4 = n + 8 by omega] at H2
  refine m_four H2 (by omega) (fun h3 H3 F3 G3 => ?_)
  rw [show n + 8 + 4 = n + 12 by omega] at H3
  refine m_four H3 (by omega) (fun h4 H4 F4 G4 => ?_)
  rw [show n + 12 + 4 = n + 16 by omega] at H4
  refine m_four H4 (by omega) (fun h5 H5 F5 G5 => ?_)
  rw [show n + 16 + 4 = n + 20 by omega] at H5
  rw [H5.1]
  exact q1 (by omega) h5 H5 (fun a c1 c2 => by rw [F5 a c1 c2, F4 a c1 c2, F3 a c1 c2, F2 a c1 c2, F1 a c1 c2]) (fun j hj => by rw [G5 j hj, G4 j hj, G3 j hj, G2 j hj, G1 j hj])
theorem x_cut {Q : Int → Hp → Prop} {x : Int} (H : cX 10 1000 B n h) (q1 : 0 ≤ x → x ≤ n → ∀ h' : Hp, cX 10 1000 B x h' → (∀ a : Int, a ≠ 10 → h' a = h a) → Q (n - x) h') (q2 : ¬ (0 ≤ x ∧ x ≤ n) → Q (-1002) h) : Good g (d + 1) i9_cut [LR 9 4, LI x] S0 h S0 (retI Q) := by
  have n0 := H.2.1
  have n1 := H.2.2.1
  refine g9_cut (fun _ => v9_cut ?_)
  rw [H.1]
  refine ⟨fun c => q2 (by omega), fun c => ⟨fun c2 h3 e3 => ?_, fun c2 => q2 (by omega)⟩⟩
  rw [w32_id (by omega) (by omega)]
  refine q1 (by omega) c2 h3 ⟨by rw [e3, hup_at], by omega, by omega, fun i i0 i1 => ?_⟩ (fun a c1 => by rw [e3, hup_r c1])
  rw [e3, hup_ne (by decide)]
  exact H.2.2.2 i i0 (by omega)
theorem y_cut {Q : Int → Hp → Prop} {x : Int} (H : mX B n h) (q1 : 0 ≤ x → x ≤ n → ∀ h' : Hp, mX B x h' → (∀ a : Int, a ≠ 608 → h' a = h a) → (∀ j : Int, j ≠ 7 → h' 608 j = h 608 j) → Q (n - x) h') (q2 : ¬ (0 ≤ x ∧ x ≤ n) → Q (-1002) h) : Good g (d + 2) i10_cut [LR 10 608, LI x] S0 h S0 (retI Q) := by
  have n0 := H.2.1
  have n1 := H.2.2.1
  refine g10_cut (fun _ => v10_cut (m_in ?_))
  rw [H.1]
  refine bn (fun c h3 e3 => ?_) q2
  rw [w32_id (by omega) (by omega)]
  refine q1 c.1 c.2 h3 ⟨by rw [e3, hup_at], by omega, by omega, fun i i0 i1 => ?_⟩ (fun a c1 => by rw [e3, hup_r c1]) (fun j hj => by rw [e3, hup_nj hj])
  rw [e3, hup_ne (by decide)]
  exact H.2.2.2 i i0 (by omega)
end
