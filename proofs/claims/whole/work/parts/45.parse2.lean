/-! READING, pure: what holds of what is read -/
section
variable {E : Ev} {B : Int → Int} {n : Int} {ip : Bool} {mo : Int}
theorem byt_in {i : Int} (h : 0 ≤ byt B n i) : 0 ≤ i ∧ i < n ∧ byt B n i = B i := by
  unfold byt at h ⊢
  by_cases c : 0 ≤ i ∧ i < n
  · rw [if_pos c]
    exact ⟨c.1, c.2, rfl⟩
  · rw [if_neg c] at h
    omega
theorem byt_at {i : Int} (h0 : 0 ≤ i) (h1 : i < n) : byt B n i = B i := by unfold byt; rw [if_pos ⟨h0, h1⟩]
theorem byt_no {i : Int} (h : ¬ (0 ≤ i ∧ i < n)) : byt B n i = -1 := by unfold byt; rw [if_neg h]
theorem nuF_in {p : Int} (h0 : 0 ≤ p) (h1 : p ≤ n) : p ≤ nuF B n p ∧ nuF B n p ≤ n := by
  unfold nuF
  split
  · rename_i c
    have := byt_in (B := B) (n := n) (i := p) (by omega)
    omega
  · omega
theorem vl_18 {q e : Int} (h1 : ¬ 18 < e - q) (h2 : q ≤ e) (hd : ∀ i : Int, q ≤ i → i < e → 48 ≤ B i ∧ B i ≤ 57) : 0 ≤ vl B (e - q).toNat 0 q ∧ vl B (e - q).toNat 0 q < 1000000000000000000 := by
  have := vl_b (B := B) (e - q).toNat 0 q 0 (fun i i0 i1 => hd i i0 (by omega)) (by decide) (by decide)
  refine ⟨this.1, Int.lt_of_lt_of_le this.2 ?_⟩
  rw [Nat.zero_add]
  have h3 : (e - q).toNat ≤ 18 := by omega
  have h4 : (10 : Int) ^ (e - q).toNat ≤ 10 ^ 18 := by
    have := Nat.pow_le_pow_right (n := 10) (by decide) h3
    exact_mod_cast this
  have e5 : (10 : Int) ^ 18 = 1000000000000000000 := by decide
  omega
theorem nuR_ok {p : Int} (h0 : 0 ≤ p) (h1 : p ≤ n) : 0 ≤ (nuR B n p).2.1 ∧ (nuR B n p).2.1 ≤ n ∧ ((nuR B n p).1 = 0 ∨ (nuR B n p).1 = 1 ∨ (nuR B n p).1 = 3) ∧ -1000000000000000000 < (nuR B n p).2.2 ∧ (nuR B n p).2.2 < 1000000000000000000 := by
  have hf := nuF_in (B := B) h0 h1
  have hd := dg_p (B := B) (n := n) (p := nuF B n p)
  unfold nuR
  split
  · exact ⟨h0, h1, by simp, by simp, by simp⟩
  · split
    · exact ⟨by simp; omega, by simp; omega, by simp, by simp, by simp⟩
    · rename_i c1 c2
      have := vl_18 c1 hd.1 hd.2.2
      have := hd.2.1 hf.2
      refine ⟨by simp; omega, by simp; omega, by simp, ?_⟩
      simp only
      split <;> omega
theorem spR_ok {p : Int} (h0 : 0 ≤ p) (h1 : p ≤ n) : 0 ≤ (spR B n p).2.1 ∧ (spR B n p).2.1 ≤ n ∧ ((spR B n p).1 = 0 ∨ (spR B n p).1 = 1 ∨ (spR B n p).1 = 3) ∧ -1000000000000000000 < (spR B n p).2.2.1 ∧ (spR B n p).2.2.1 < 1000000000000000000 ∧ -1000000000000000000 < (spR B n p).2.2.2 ∧ (spR B n p).2.2.2 < 1000000000000000000 := by
  have b1 := bl_p (B := B) (n := n) (p := p)
  have r1 := nuR_ok (B := B) (n := n) (p := bl B n p) (by omega) (b1.2.1 h1)
  have b2 := bl_p (B := B) (n := n) (p := (nuR B n (bl B n p)).2.1)
  have b2' := b2.2.1 r1.2.1
  unfold spR
  split
  · exact ⟨r1.1, r1.2.1, r1.2.2.1, by simp, by simp, by simp, by simp⟩
  · split
    · exact ⟨by simp; omega, by simp; omega, by simp, by simp, by simp, by simp, by simp⟩
    · rename_i c1 c2
      have c2 : byt B n (bl B n (nuR B n (bl B n p)).2.1) = 126 := Classical.byContradiction c2
      have c3 := byt_in (B := B) (n := n) (i := bl B n (nuR B n (bl B n p)).2.1) (by omega)
      have b3 := bl_p (B := B) (n := n) (p := bl B n (nuR B n (bl B n p)).2.1 + 1)
      have b3' := b3.2.1 (by omega)
      have r2 := nuR_ok (B := B) (n := n) (p := bl B n (bl B n (nuR B n (bl B n p)).2.1 + 1)) (by omega) b3'
      have b4 := bl_p (B := B) (n := n) (p := (nuR B n (bl B n (bl B n (nuR B n (bl B n p)).2.1 + 1))).2.1)
      have b4' := b4.2.1 r2.2.1
      split
      · exact ⟨r2.1, r2.2.1, r2.2.2.1, by simp, by simp, by simp, by simp⟩
      · split
        · exact ⟨by simp; omega, by simp; omega, by simp, by simp, by simp, by simp, by simp⟩
        · rename_i c4 c5
          have c5 : byt B n (bl B n (nuR B n (bl B n (bl B n (nuR B n (bl B n p)).2.1 + 1))).2.1) = 93 := Classical.byContradiction c5
          have c6 := byt_in (B := B) (n := n) (i := bl B n (nuR B n (bl B n (bl B n (nuR B n (bl B n p)).2.1 + 1))).2.1) (by omega)
          have b5 := bl_p (B := B) (n := n) (p := bl B n (nuR B n (bl B n (bl B n (nuR B n (bl B n p)).2.1 + 1))).2.1 + 1)
          have b5' := b5.2.1 (by omega)
          exact ⟨by simp; omega, by simp; omega, by simp, r1.2.2.2.1, r1.2.2.2.2, r2.2.2.2.1, r2.2.2.2.2⟩
theorem knR_ok {p : Int} (h0 : 0 ≤ p) (h1 : p ≤ n) (hk : 1 ≤ E 0 0) : 0 ≤ (knR E B n p).2.1 ∧ (knR E B n p).2.1 ≤ n ∧ ((knR E B n p).1 = 0 ∨ (knR E B n p).1 = 1 ∨ (knR E B n p).1 = 3) ∧ 0 ≤ (knR E B n p).2.2 ∧ (knR E B n p).2.2 < E 0 0 := by
  have b1 := bl_p (B := B) (n := n) (p := p)
  have b1' := b1.2.1 h1
  have hd := dg_p (B := B) (n := n) (p := bl B n p)
  have hd' := hd.2.1 b1'
  unfold knR
  split
  · exact ⟨by simp; omega, by simp; omega, by simp, by simp, by simp; omega⟩
  · split
    · exact ⟨by simp; omega, by simp; omega, by simp, by simp, by simp; omega⟩
    · split
      · exact ⟨by simp; omega, by simp; omega, by simp, by simp, by simp; omega⟩
      · rename_i c1 c2 c3
        have := vl_18 c2 hd.1 hd.2.2
        exact ⟨by simp; omega, by simp; omega, by simp, this.1, Classical.byContradiction c3⟩
/-- what a hole's part of the text comes to -/
def hoOk (E : Ev) (n : Int) (r : Int × Int × Nd) : Prop := 0 ≤ r.2.1 ∧ r.2.1 ≤ n ∧ (r.1 = 0 ∨ r.1 = 1 ∨ r.1 = 3) ∧ (r.1 = 0 → okN E r.2.2 ∧ r.2.2 7 = 0)
theorem hs2_ok {p nm kn : Int} (h0 : 0 ≤ p) (h1 : p ≤ n) (k0 : 0 ≤ kn) (k1 : kn < E 0 0) (m0 : -1 ≤ nm) (m1 : nm < 10) : hoOk E n (hs2 B n nm kn p) := by
  have b1 := bl_p (B := B) (n := n) (p := p)
  have b1' := b1.2.1 h1
  unfold hs2
  split
  · rename_i c
    have c3 := byt_in (B := B) (n := n) (i := bl B n p) (by omega)
    have r1 := spR_ok (B := B) (n := n) (p := bl B n p + 1) (by omega) (by omega)
    split
    · rename_i c4
      exact ⟨r1.1, r1.2.1, r1.2.2.1, fun z => absurd z c4⟩
    · exact ⟨r1.1, r1.2.1, Or.inl rfl, fun _ => ⟨Or.inr (Or.inr (Or.inl ⟨rfl, rfl, k0, k1, m0, m1, Or.inr ⟨rfl, r1.2.2.2.1, r1.2.2.2.2.1, r1.2.2.2.2.2.1, r1.2.2.2.2.2.2⟩, rfl, rfl, rfl⟩)), rfl⟩⟩
  · exact ⟨by simp; omega, by simp; omega, Or.inl rfl, fun _ => ⟨Or.inr (Or.inr (Or.inl ⟨rfl, rfl, k0, k1, m0, m1, Or.inl ⟨rfl, rfl, rfl⟩, rfl, rfl, rfl⟩)), rfl⟩⟩
theorem hs1_ok {p nm : Int} (h0 : 0 ≤ p) (h1 : p ≤ n) (hk : 1 ≤ E 0 0) (m0 : -1 ≤ nm) (m1 : nm < 10) : hoOk E n (hs1 E B n nm p) := by
  have b1 := bl_p (B := B) (n := n) (p := p)
  have b1' := b1.2.1 h1
  unfold hs1
  split
  · rename_i c
    have c3 := byt_in (B := B) (n := n) (i := bl B n p) (by omega)
    have r1 := knR_ok (E := E) (B := B) (n := n) (p := bl B n p + 1) (by omega) (by omega) hk
    split
    · rename_i c4
      exact ⟨r1.1, r1.2.1, r1.2.2.1, fun z => absurd z c4⟩
    · exact hs2_ok r1.1 r1.2.1 r1.2.2.2.1 r1.2.2.2.2 m0 m1
  · exact hs2_ok (by omega) b1' (by omega) (by omega) m0 m1
theorem hoR_ok {p : Int} (h0 : 0 ≤ p) (h1 : p ≤ n) (hk : 1 ≤ E 0 0) : hoOk E n (hoR E B n p) := by
  unfold hoR
  split
  · rename_i c
    have c3 := byt_in (B := B) (n := n) (i := p) (by omega)
    exact hs1_ok (by omega) (by omega) hk (by omega) (by omega)
  · exact hs1_ok h0 h1 hk (by decide) (by decide)
/-- what is read behind L: k trees -/
def rsOk (E : Ev) (n mo : Int) (L : NL) (k : Nat) (r : Rs) : Prop := 0 ≤ r.2.1 ∧ r.2.1 ≤ n ∧ 0 ≤ r.1 ∧ r.1 ≤ 6 ∧ (r.1 = 0 → ∃ T : NL, r.2.2 = L ++ T ∧ wf T k ∧ (∀ x ∈ T, okN E x) ∧ ln (L ++ T) ≤ mo)
theorem ln_app (A C : NL) : ln (A ++ C) = ln A + ln C := by unfold ln; rw [List.length_append]; omega
theorem due_nn (k : Nat) : 0 ≤ due k := by unfold due; split <;> decide
theorem rdP_ok {rd : Int → NL → Rs} (hrd : ∀ (p : Int) (L : NL), 0 ≤ p → p ≤ n → ln L ≤ mo → rsOk E n mo L 1 (rd p L)) : ∀ (k : Nat) (p : Int) (L : NL), 0 ≤ p → p ≤ n → ln L ≤ mo → rsOk E n mo L k (rdP B n rd k p L)
  | 0, p, L, h0, h1, hl => ⟨h0, h1, by simp [rdP], by simp [rdP], fun _ => ⟨[], by simp [rdP], rfl, by simp, by simpa using hl⟩⟩
  | k + 1, p, L, h0, h1, hl => by
    have r := hrd p L h0 h1 hl
    unfold rdP
    split
    · rename_i c
      exact ⟨r.1, r.2.1, r.2.2.1, r.2.2.2.1, fun z => absurd z c⟩
    · rename_i c
      have c : (rd p L).1 = 0 := Classical.byContradiction c
      obtain ⟨T, e, w, o, lt⟩ := r.2.2.2.2 c
      have b1 := bl_p (B := B) (n := n) (p := (rd p L).2.1)
      have b1' := b1.2.1 r.2.1
      have r0 := r.1
      split
      · rename_i c2
        have c3 := byt_in (B := B) (n := n) (i := bl B n (rd p L).2.1) (by rw [c2]; exact due_nn k)
        have ih := rdP_ok hrd k (bl B n (rd p L).2.1 + 1) (rd p L).2.2 (by omega) (by omega) (by rw [e]; exact lt)
        refine ⟨ih.1, ih.2.1, ih.2.2.1, ih.2.2.2.1, fun z => ?_⟩
        obtain ⟨T2, e2, w2, o2, lt2⟩ := ih.2.2.2.2 z
        refine ⟨T ++ T2, by rw [e2, e, List.append_assoc], by rw [Nat.add_comm]; exact wf_app w w2, fun x hx => ?_, by rw [← List.append_assoc, ← e]; exact lt2⟩
        rcases List.mem_append.mp hx with z | z
        · exact o x z
        · exact o2 x z
      · refine ⟨by simp; omega, by simp; omega, ?_, ?_, fun z => ?_⟩
        · simp only
          split <;> decide
        · simp only
          split <;> decide
        · simp only at z
          split at z <;> exact absurd z (by decide)
theorem rs_bad {f p : Int} {L : NL} {k : Nat} {L' : NL} (h0 : 0 ≤ p) (h1 : p ≤ n) (f0 : 0 < f) (f1 : f ≤ 6) : rsOk E n mo L k (f, p, L') := ⟨h0, h1, by simp; omega, f1, fun z => by simp at z; omega⟩
theorem wf_1 {x : Nd} (h : x 7 = 0) : wf [x] 1 := by
  show (x 7).toNat + 0 = 0
  rw [h]
  rfl
theorem ln_1 (x : Nd) : ln [x] = 1 := rfl
theorem rs_one {p : Int} {L : NL} {x : Nd} (h0 : 0 ≤ p) (h1 : p ≤ n) (o : okN E x) (h7 : x 7 = 0) (hl : ln L < mo) : rsOk E n mo L 1 (0, p, L ++ [x]) := ⟨h0, h1, by simp, by simp, fun _ => ⟨[x], rfl, wf_1 h7, fun y hy => by rw [List.mem_singleton.mp hy]; exact o, by rw [ln_app, ln_1]; omega⟩⟩
theorem rs_sub {r : Rs} {L : NL} {x : Nd} {k : Nat} (h : rsOk E n mo (L ++ [x]) k r) (o : okN E x) (h7 : (x 7).toNat = k) : rsOk E n mo L 1 r := by
  refine ⟨h.1, h.2.1, h.2.2.1, h.2.2.2.1, fun z => ?_⟩
  obtain ⟨T, e, w, o2, lt⟩ := h.2.2.2.2 z
  refine ⟨x :: T, by rw [e, List.append_assoc]; rfl, ?_, fun y hy => ?_, by rw [List.append_assoc] at lt; exact lt⟩
  · show wf T ((x 7).toNat + 0)
    rw [h7]
    exact w
  · rcases List.mem_cons.mp hy with rfl | z
    · exact o
    · exact o2 y z
theorem okN_hd (ok : okE E) {x : Int} (h0 : 0 ≤ x) (h1 : x < E 0 1) : okN E (hdN E x) := Or.inl ⟨rfl, h0, h1, rfl, rfl, rfl, rfl, rfl, rfl, rfl, rfl⟩
theorem okN_ov {s : Int} (h : s = 3 ∨ s = 4) : okN E (ovN s) := Or.inr (Or.inr (Or.inr ⟨h, rfl, rfl, rfl, rfl, rfl, rfl, rfl, rfl, rfl⟩))
theorem rdN_ok (ok : okE E) : ∀ (f w : Nat) (p : Int) (L : NL), 13 ≤ f + w → w ≤ 12 → 0 ≤ p → p ≤ n → ln L ≤ mo → rsOk E n mo L 1 (rdN E B n ip mo f w p L)
  | 0, w, p, L, hf, hw, _, _, _ => by omega
  | f + 1, w, p, L, hf, hw, h0, h1, hl => by
    have hk := ok.1
    have b1 := bl_p (B := B) (n := n) (p := p)
    have b1' := b1.2.1 h1
    unfold rdN
    split
    · rename_i c
      have c3 := byt_in (B := B) (n := n) (i := bl B n p) (by omega)
      have b2 := bl_p (B := B) (n := n) (p := bl B n p + 1)
      have b2' := b2.2.1 (by omega)
      split
      · exact rs_bad (by omega) (by omega) (by decide) (by decide)
      · split
        · exact rs_bad (by omega) (by omega) (by decide) (by decide)
        · rename_i c4 c5
          split
          · rename_i c6
            have c7 := byt_in (B := B) (n := n) (i := bl B n (bl B n p + 1)) (by omega)
            split
            · exact rs_bad (by omega) (by omega) (by decide) (by decide)
            · split
              · exact rs_bad (by omega) (by omega) (by decide) (by decide)
              · exact rs_sub (rdP_ok (fun p L => rdN_ok ok f (w + 1) p L (by omega) (by omega)) _ _ _ (by omega) (by omega) (by rw [ln_app, ln_1]; omega)) (okN_hd ok (by omega) (by omega)) rfl
          · split
            · exact rs_bad (by omega) (by omega) (by decide) (by decide)
            · rename_i c6
              have := ok.2.2.2.2.2 (byt B n (bl B n p) - 97) (by omega) (by omega)
              exact rs_one (by omega) (by omega) (okN_hd ok (by omega) (by omega)) (show E 3 _ = 0 by omega) (by omega)
    · split
      · have r := nuR_ok (B := B) (n := n) (p := bl B n p) (by omega) (by omega)
        split
        · exact rs_bad (by omega) (by omega) (by decide) (by decide)
        · split
          · exact rs_bad (by omega) (by omega) (by decide) (by decide)
          · split
            · exact rs_bad (by omega) (by omega) (by omega) (by omega)
            · exact rs_one (by omega) (by omega) (Or.inr (Or.inl ⟨rfl, rfl, rfl, rfl, rfl, r.2.2.2.1, r.2.2.2.2, rfl, rfl, rfl, rfl⟩)) rfl (by omega)
      · split
        · rename_i c
          have c3 := byt_in (B := B) (n := n) (i := bl B n p) (by omega)
          have r := hoR_ok (E := E) (B := B) (n := n) (p := bl B n p + 1) (by omega) (by omega) hk
          split
          · exact rs_bad (by omega) (by omega) (by decide) (by decide)
          · split
            · rename_i c4
              have := r.2.2.1
              exact rs_bad r.1 r.2.1 (by omega) (by omega)
            · rename_i c4
              have := r.2.2.2 (Classical.byContradiction c4)
              exact rs_one r.1 r.2.1 this.1 this.2 (by omega)
        · split
          · rename_i c
            have c3 := byt_in (B := B) (n := n) (i := bl B n p) (by omega)
            split
            · exact rs_bad (by omega) (by omega) (by decide) (by decide)
            · split
              · exact rs_bad (by omega) (by omega) (by decide) (by decide)
              · split
                · exact rs_bad (by omega) (by omega) (by decide) (by decide)
                · rename_i c4
                  have c4 : byt B n (bl B n p + 1) = 46 := Classical.byContradiction c4
                  have c5 := byt_in (B := B) (n := n) (i := bl B n p + 1) (by omega)
                  exact rs_sub (rdN_ok ok f (w + 1) _ _ (by omega) (by omega) (by omega) (by omega) (by rw [ln_app, ln_1]; omega)) (okN_ov (Or.inl rfl)) rfl
          · split
            · rename_i c
              have c3 := byt_in (B := B) (n := n) (i := bl B n p) (by omega)
              split
              · exact rs_bad (by omega) (by omega) (by decide) (by decide)
              · split
                · exact rs_bad (by omega) (by omega) (by decide) (by decide)
                · exact rs_sub (rdN_ok ok f (w + 1) _ _ (by omega) (by omega) (by omega) (by omega) (by rw [ln_app, ln_1]; omega)) (okN_ov (Or.inr rfl)) rfl
            · exact rs_bad (by omega) (by omega) (by decide) (by decide)
theorem rdA_ok (ok : okE E) (hn : 0 ≤ n) (hm : 0 ≤ mo) : rsOk E n mo [] 1 (rdA E B n ip mo) := by
  have r := rdN_ok (B := B) (n := n) (ip := ip) (mo := mo) ok 13 0 0 [] (by decide) (by decide) (by decide) hn (by show (0 : Int) ≤ mo; exact hm)
  have b1 := bl_p (B := B) (n := n) (p := (rdN E B n ip mo 13 0 0 []).2.1)
  have := b1.2.1 r.2.1
  have := r.1
  unfold rdA
  split
  · exact r
  · split
    · exact rs_bad (by omega) (by omega) (by decide) (by decide)
    · exact r
end
