theorem m_0 {i : Nat} {w : Cond} (h : (k2_sels lw_privs)[i]? = some w) : w ∈ lw_tbl := List.mem_append_left _ (List.mem_of_getElem? h)
theorem m_t {w : Cond} (h : w ∈ tables_1) : w ∈ lw_tbl := List.mem_append_right _ h
theorem m_1 {i : Nat} {w : Cond} (h : tables_1_1[i]? = some w) : w ∈ lw_tbl := m_t (List.mem_append_left _ (List.mem_of_getElem? h))
theorem m_2 {i : Nat} {w : Cond} (h : tables_1_2[i]? = some w) : w ∈ lw_tbl := m_t (List.mem_append_right _ (List.mem_append_left _ (List.mem_of_getElem? h)))
theorem m_3 {i : Nat} {w : Cond} (h : tables_1_3[i]? = some w) : w ∈ lw_tbl := m_t (List.mem_append_right _ (List.mem_append_right _ (List.mem_append_left _ (List.mem_of_getElem? h))))
theorem m_4 {i : Nat} {w : Cond} (h : tables_1_4[i]? = some w) : w ∈ lw_tbl := m_t (List.mem_append_right _ (List.mem_append_right _ (List.mem_append_right _ (List.mem_append_left _ (List.mem_of_getElem? h)))))
theorem m_5 {i : Nat} {w : Cond} (h : tables_1_5[i]? = some w) : w ∈ lw_tbl := m_t (List.mem_append_right _ (List.mem_append_right _ (List.mem_append_right _ (List.mem_append_right _ (List.mem_append_left _ (List.mem_of_getElem? h))))))
theorem m_6 {i : Nat} {w : Cond} (h : tables_1_6[i]? = some w) : w ∈ lw_tbl := m_t (List.mem_append_right _ (List.mem_append_right _ (List.mem_append_right _ (List.mem_append_right _ (List.mem_append_right _ (List.mem_append_left _ (List.mem_of_getElem? h)))))))
theorem m_7 {i : Nat} {w : Cond} (h : tables_1_7[i]? = some w) : w ∈ lw_tbl := m_t (List.mem_append_right _ (List.mem_append_right _ (List.mem_append_right _ (List.mem_append_right _ (List.mem_append_right _ (List.mem_append_right _ (List.mem_of_getElem? h)))))))
def FOk (own idx : Nat) (e : Nat × Int × Nat × Nat) : Prop := e.1 < 11 ∧ 0 ≤ e.2.1 ∧ e.2.1.toNat < nf e.1 ∧ fkt e.1 e.2.1.toNat = (e.2.2.1, e.2.2.2) ∧ Cond.fieldLink (cnm own) idx (cnm e.1) (fT e.1 e.2.1.toNat).2.1 (fT e.1 e.2.1.toNat).2.2.1 ∈ lw_tbl
def rkOk (rk : Nat) (r : Option FieldType) : Bool := match rk, r with
  | 0, none => true
  | 1, some .int => true
  | 1, some .boolean => true
  | 2, some .long => true
  | 9, some (.object _) => true
  | _, _ => false
/-- of a method: its code and its class's start are words; how many parameters; its locals; its answer -/
def MB (n rk : Nat) (mi : MI) : Prop := Cond.code mi.1 mi.2.1 mi.2.2.1 mi.2.2.2 ∈ lw_tbl ∧ Cond.initialized mi.1.cls ∈ lw_tbl ∧ (mi.1.cls ≠ "java/lang/invoke/MethodHandle" ∧ mi.1.cls ≠ "java/lang/invoke/VarHandle") ∧ (parseMethodDescriptor mi.1.desc).map (fun d => d.parameters.length) = some n ∧ mi.2.2.1 ≤ 13 ∧ rkOk rk mi.2.2.2 = true ∧ plainName mi.1.cls = true
def MO0 (own idx n rk ct : Nat) (mi : MI) : Prop := Cond.methodLink (cnm own) idx mi.1 ∈ lw_tbl ∧ Cond.instanceMethod mi.1 ∈ lw_tbl ∧ Cond.selects mi.1.cls mi.1 mi.1 ∈ lw_tbl ∧ mi.1.cls = cnm ct ∧ ct < 11 ∧ MB n rk mi
def MO1 (own idx n rk : Nat) (mi : MI) : Prop := Cond.methodLink (cnm own) idx mi.1 ∈ lw_tbl ∧ Cond.static mi.1 ∈ lw_tbl ∧ MB n rk mi
def MO2 (own idx n rk ct : Nat) (mi : MI) : Prop := Cond.methodLink (cnm own) idx mi.1 ∈ lw_tbl ∧ Cond.instanceMethod mi.1 ∈ lw_tbl ∧ mi.1.cls = cnm ct ∧ ct < 11 ∧ mi.1.name = "<init>" ∧ MB n rk mi
def NW (own idx : Nat) (mi : MI) : Prop := (own = 9 ∧ idx = 44 ∧ mi = i6_init) ∨ (own = 6 ∧ idx = 26 ∧ mi = i0_init) ∨ (own = 9 ∧ idx = 47 ∧ mi = i0_init)
def MO3 (own idx n rk ct : Nat) (mi : MI) : Prop := NW own idx mi ∧ Cond.instanceMethod mi.1 ∈ lw_tbl ∧ mi.1.cls = cnm ct ∧ ct < 11 ∧ mi.1.name = "<init>" ∧ MB n rk mi
def MOk (own idx : Nat) (q : Nat × Nat × Nat × Nat × MI) : Prop := match q with
  | (0, n + 1, rk, ct, mi) => MO0 own idx n rk ct mi
  | (1, n, rk, _, mi) => MO1 own idx n rk mi
  | (2, n + 1, rk, ct, mi) => MO2 own idx n rk ct mi
  | (3, n + 1, rk, ct, mi) => MO3 own idx n rk ct mi
  | (4, _, _, _, _) => Cond.methodLink (cnm own) idx Lib.Math.max.name ∈ lw_tbl
  | (5, _, _, _, _) => Cond.methodLink (cnm own) idx Lib.Math.min.name ∈ lw_tbl
  | (6, _, _, _, _) => Cond.methodLink (cnm own) idx Lib.MathLoose.max_long.x ∈ lw_tbl
  | (7, _, _, _, _) => Cond.methodLink (cnm own) idx Lib.MathLoose.abs_long.x ∈ lw_tbl
  | _ => False
def AllP {α : Type} (P : Nat → α → Prop) : List (Nat × α) → Prop
  | [] => True
  | q :: l => P q.1 q.2 ∧ AllP P l
theorem AllP.get {α : Type} {P : Nat → α → Prop} : ∀ {l : List (Nat × α)} {k : Nat} {v : α}, AllP P l → l.lookup k = some v → P k v
  | [], k, v, _, h => by simp at h
  | (a, b) :: l, k, v, H, h => by
    rw [List.lookup_cons] at h
    split at h
    · rename_i he
      have : k = a := by simpa using he
      cases h
      subst this
      exact H.1
    · exact AllP.get H.2 h
def AllN (P : Nat → Prop) : Nat → Prop
  | 0 => True
  | n + 1 => AllN P n ∧ P n
theorem AllN.get {P : Nat → Prop} : ∀ {n k : Nat}, AllN P n → k < n → P k
  | 0, k, _, h => absurd h (Nat.not_lt_zero k)
  | n + 1, k, H, h => by
    rcases Nat.lt_or_ge k n with q | q
    · exact AllN.get H.1 q
    · have e : k = n := Nat.le_antisymm (Nat.lt_succ_iff.mp h) q
      rw [e]
      exact H.2
theorem b9_init : MB 0 0 i9_init := ⟨m_1 (i := 19) rfl, m_1 (i := 1) rfl, ⟨by decide +kernel, by decide +kernel⟩, by decide +kernel, by decide, rfl, by decide⟩
theorem b2_init : MB 0 0 i2_init := ⟨m_1 (i := 27) rfl, m_1 (i := 2) rfl, ⟨by decide +kernel, by decide +kernel⟩, by decide +kernel, by decide, rfl, by decide⟩
theorem b8_init : MB 1 0 i8_init := ⟨m_1 (i := 57) rfl, m_1 (i := 3) rfl, ⟨by decide +kernel, by decide +kernel⟩, by decide +kernel, by decide, rfl, by decide⟩
theorem b5_init : MB 1 0 i5_init := ⟨m_1 (i := 77) rfl, m_1 (i := 5) rfl, ⟨by decide +kernel, by decide +kernel⟩, by decide +kernel, by decide, rfl, by decide⟩
theorem b6_init : MB 0 0 i6_init := ⟨m_1 (i := 159) rfl, m_1 (i := 6) rfl, ⟨by decide +kernel, by decide +kernel⟩, by decide +kernel, by decide, rfl, by decide⟩
theorem b0_init : MB 0 0 i0_init := ⟨m_1 (i := 167) rfl, m_1 (i := 7) rfl, ⟨by decide +kernel, by decide +kernel⟩, by decide +kernel, by decide, rfl, by decide⟩
theorem b7_init : MB 3 0 i7_init := ⟨m_1 (i := 234) rfl, m_1 (i := 8) rfl, ⟨by decide +kernel, by decide +kernel⟩, by decide +kernel, by decide, rfl, by decide⟩
theorem b3_init : MB 3 0 i3_init := ⟨m_2 (i := 29) rfl, m_1 (i := 9) rfl, ⟨by decide +kernel, by decide +kernel⟩, by decide +kernel, by decide, rfl, by decide⟩
theorem b1_init : MB 3 0 i1_init := ⟨m_2 (i := 66) rfl, m_1 (i := 10) rfl, ⟨by decide +kernel, by decide +kernel⟩, by decide +kernel, by decide, rfl, by decide⟩
theorem b4_init : MB 3 0 i4_init := ⟨m_2 (i := 95) rfl, m_1 (i := 11) rfl, ⟨by decide +kernel, by decide +kernel⟩, by decide +kernel, by decide, rfl, by decide⟩
theorem b9_kind : MB 1 1 i9_kind := ⟨m_2 (i := 160) rfl, m_1 (i := 1) rfl, ⟨by decide +kernel, by decide +kernel⟩, by decide +kernel, by decide, rfl, by decide⟩
theorem b2_hasKind : MB 1 1 i2_hasKind := ⟨m_2 (i := 164) rfl, m_1 (i := 2) rfl, ⟨by decide +kernel, by decide +kernel⟩, by decide +kernel, by decide, rfl, by decide⟩
theorem b2_addKind : MB 1 1 i2_addKind := ⟨m_2 (i := 168) rfl, m_1 (i := 2) rfl, ⟨by decide +kernel, by decide +kernel⟩, by decide +kernel, by decide, rfl, by decide⟩
theorem b9_isUnder : MB 2 1 i9_isUnder := ⟨m_2 (i := 172) rfl, m_1 (i := 1) rfl, ⟨by decide +kernel, by decide +kernel⟩, by decide +kernel, by decide, rfl, by decide⟩
theorem b2_isBelow : MB 2 1 i2_isBelow := ⟨m_2 (i := 176) rfl, m_1 (i := 2) rfl, ⟨by decide +kernel, by decide +kernel⟩, by decide +kernel, by decide, rfl, by decide⟩
theorem b9_asInt : MB 1 1 i9_asInt := ⟨m_2 (i := 180) rfl, m_1 (i := 1) rfl, ⟨by decide +kernel, by decide +kernel⟩, by decide +kernel, by decide, rfl, by decide⟩
theorem b9_head : MB 3 1 i9_head := ⟨m_2 (i := 184) rfl, m_1 (i := 1) rfl, ⟨by decide +kernel, by decide +kernel⟩, by decide +kernel, by decide, rfl, by decide⟩
theorem b2_addHead : MB 3 1 i2_addHead := ⟨m_2 (i := 188) rfl, m_1 (i := 2) rfl, ⟨by decide +kernel, by decide +kernel⟩, by decide +kernel, by decide, rfl, by decide⟩
theorem b9_feed : MB 5 1 i9_feed := ⟨m_2 (i := 192) rfl, m_1 (i := 1) rfl, ⟨by decide +kernel, by decide +kernel⟩, by decide +kernel, by decide, rfl, by decide⟩
theorem b8_addFour : MB 1 0 i8_addFour := ⟨m_2 (i := 196) rfl, m_1 (i := 3) rfl, ⟨by decide +kernel, by decide +kernel⟩, by decide +kernel, by decide, rfl, by decide⟩
theorem b8_add : MB 1 0 i8_add := ⟨m_2 (i := 200) rfl, m_1 (i := 3) rfl, ⟨by decide +kernel, by decide +kernel⟩, by decide +kernel, by decide, rfl, by decide⟩
theorem b9_cut : MB 1 1 i9_cut := ⟨m_2 (i := 204) rfl, m_1 (i := 1) rfl, ⟨by decide +kernel, by decide +kernel⟩, by decide +kernel, by decide, rfl, by decide⟩
theorem b9_pattern : MB 1 1 i9_pattern := ⟨m_2 (i := 208) rfl, m_1 (i := 1) rfl, ⟨by decide +kernel, by decide +kernel⟩, by decide +kernel, by decide, rfl, by decide⟩
theorem b9_freeNumber : MB 0 1 i9_freeNumber := ⟨m_2 (i := 212) rfl, m_1 (i := 1) rfl, ⟨by decide +kernel, by decide +kernel⟩, by decide +kernel, by decide, rfl, by decide⟩
theorem b7_read : MB 2 1 i7_read := ⟨m_2 (i := 216) rfl, m_1 (i := 8) rfl, ⟨by decide +kernel, by decide +kernel⟩, by decide +kernel, by decide, rfl, by decide⟩
theorem b7_readNode : MB 1 1 i7_readNode := ⟨m_2 (i := 220) rfl, m_1 (i := 8) rfl, ⟨by decide +kernel, by decide +kernel⟩, by decide +kernel, by decide, rfl, by decide⟩
theorem b7_skipBlanks : MB 0 0 i7_skipBlanks := ⟨m_2 (i := 224) rfl, m_1 (i := 8) rfl, ⟨by decide +kernel, by decide +kernel⟩, by decide +kernel, by decide, rfl, by decide⟩
theorem b8_byteAt : MB 1 1 i8_byteAt := ⟨m_2 (i := 228) rfl, m_1 (i := 3) rfl, ⟨by decide +kernel, by decide +kernel⟩, by decide +kernel, by decide, rfl, by decide⟩
theorem b7_fail : MB 2 1 i7_fail := ⟨m_2 (i := 232) rfl, m_1 (i := 8) rfl, ⟨by decide +kernel, by decide +kernel⟩, by decide +kernel, by decide, rfl, by decide⟩
theorem b7_readHead : MB 2 1 i7_readHead := ⟨m_2 (i := 236) rfl, m_1 (i := 8) rfl, ⟨by decide +kernel, by decide +kernel⟩, by decide +kernel, by decide, rfl, by decide⟩
theorem b2_hasHead : MB 1 1 i2_hasHead := ⟨m_3 (i := 0) rfl, m_1 (i := 2) rfl, ⟨by decide +kernel, by decide +kernel⟩, by decide +kernel, by decide, rfl, by decide⟩
theorem b7_addNode : MB 2 1 i7_addNode := ⟨m_3 (i := 4) rfl, m_1 (i := 8) rfl, ⟨by decide +kernel, by decide +kernel⟩, by decide +kernel, by decide, rfl, by decide⟩
theorem b5_add : MB 1 1 i5_add := ⟨m_3 (i := 8) rfl, m_1 (i := 5) rfl, ⟨by decide +kernel, by decide +kernel⟩, by decide +kernel, by decide, rfl, by decide⟩
theorem b7_readParts : MB 2 1 i7_readParts := ⟨m_3 (i := 12) rfl, m_1 (i := 8) rfl, ⟨by decide +kernel, by decide +kernel⟩, by decide +kernel, by decide, rfl, by decide⟩
theorem b7_readBehindPart : MB 1 1 i7_readBehindPart := ⟨m_3 (i := 16) rfl, m_1 (i := 8) rfl, ⟨by decide +kernel, by decide +kernel⟩, by decide +kernel, by decide, rfl, by decide⟩
theorem b7_readNumberNode : MB 0 1 i7_readNumberNode := ⟨m_3 (i := 20) rfl, m_1 (i := 8) rfl, ⟨by decide +kernel, by decide +kernel⟩, by decide +kernel, by decide, rfl, by decide⟩
theorem b7_readNumber : MB 0 1 i7_readNumber := ⟨m_3 (i := 24) rfl, m_1 (i := 8) rfl, ⟨by decide +kernel, by decide +kernel⟩, by decide +kernel, by decide, rfl, by decide⟩
theorem b7_endOfDigits : MB 1 1 i7_endOfDigits := ⟨m_3 (i := 28) rfl, m_1 (i := 8) rfl, ⟨by decide +kernel, by decide +kernel⟩, by decide +kernel, by decide, rfl, by decide⟩
theorem b7_takeDigits : MB 2 0 i7_takeDigits := ⟨m_3 (i := 32) rfl, m_1 (i := 8) rfl, ⟨by decide +kernel, by decide +kernel⟩, by decide +kernel, by decide, rfl, by decide⟩
theorem b7_readHole : MB 0 1 i7_readHole := ⟨m_3 (i := 37) rfl, m_1 (i := 8) rfl, ⟨by decide +kernel, by decide +kernel⟩, by decide +kernel, by decide, rfl, by decide⟩
theorem b7_readKind : MB 1 1 i7_readKind := ⟨m_3 (i := 41) rfl, m_1 (i := 8) rfl, ⟨by decide +kernel, by decide +kernel⟩, by decide +kernel, by decide, rfl, by decide⟩
theorem b7_readSpan : MB 1 1 i7_readSpan := ⟨m_3 (i := 46) rfl, m_1 (i := 8) rfl, ⟨by decide +kernel, by decide +kernel⟩, by decide +kernel, by decide, rfl, by decide⟩
theorem b7_passSign : MB 1 1 i7_passSign := ⟨m_3 (i := 50) rfl, m_1 (i := 8) rfl, ⟨by decide +kernel, by decide +kernel⟩, by decide +kernel, by decide, rfl, by decide⟩
theorem b7_readOver : MB 2 1 i7_readOver := ⟨m_3 (i := 54) rfl, m_1 (i := 8) rfl, ⟨by decide +kernel, by decide +kernel⟩, by decide +kernel, by decide, rfl, by decide⟩
theorem b6_take : MB 3 0 i6_take := ⟨m_3 (i := 58) rfl, m_1 (i := 6) rfl, ⟨by decide +kernel, by decide +kernel⟩, by decide +kernel, by decide, rfl, by decide⟩
theorem b5_replace : MB 3 0 i5_replace := ⟨m_3 (i := 62) rfl, m_1 (i := 5) rfl, ⟨by decide +kernel, by decide +kernel⟩, by decide +kernel, by decide, rfl, by decide⟩
theorem b5_put : MB 3 0 i5_put := ⟨m_3 (i := 66) rfl, m_1 (i := 5) rfl, ⟨by decide +kernel, by decide +kernel⟩, by decide +kernel, by decide, rfl, by decide⟩
theorem b5_link : MB 1 0 i5_link := ⟨m_3 (i := 70) rfl, m_1 (i := 5) rfl, ⟨by decide +kernel, by decide +kernel⟩, by decide +kernel, by decide, rfl, by decide⟩
theorem b2_partsOfNode : MB 2 1 i2_partsOfNode := ⟨m_3 (i := 74) rfl, m_1 (i := 2) rfl, ⟨by decide +kernel, by decide +kernel⟩, by decide +kernel, by decide, rfl, by decide⟩
theorem b6_holesAheadOfFirst : MB 1 1 i6_holesAheadOfFirst := ⟨m_3 (i := 79) rfl, m_1 (i := 6) rfl, ⟨by decide +kernel, by decide +kernel⟩, by decide +kernel, by decide, rfl, by decide⟩
theorem b6_isWild : MB 2 1 i6_isWild := ⟨m_3 (i := 83) rfl, m_1 (i := 6) rfl, ⟨by decide +kernel, by decide +kernel⟩, by decide +kernel, by decide, rfl, by decide⟩
theorem b2_isLooseNode : MB 2 1 i2_isLooseNode := ⟨m_3 (i := 87) rfl, m_1 (i := 2) rfl, ⟨by decide +kernel, by decide +kernel⟩, by decide +kernel, by decide, rfl, by decide⟩
theorem b9_forgetAnswers : MB 0 0 i9_forgetAnswers := ⟨m_3 (i := 91) rfl, m_1 (i := 1) rfl, ⟨by decide +kernel, by decide +kernel⟩, by decide +kernel, by decide, rfl, by decide⟩
theorem b9_drop : MB 1 1 i9_drop := ⟨m_3 (i := 95) rfl, m_1 (i := 1) rfl, ⟨by decide +kernel, by decide +kernel⟩, by decide +kernel, by decide, rfl, by decide⟩
theorem b9_patternOf : MB 1 9 i9_patternOf := ⟨m_3 (i := 99) rfl, m_1 (i := 1) rfl, ⟨by decide +kernel, by decide +kernel⟩, by decide +kernel, by decide, rfl, by decide⟩
theorem b9_presentPatterns : MB 0 1 i9_presentPatterns := ⟨m_3 (i := 103) rfl, m_1 (i := 1) rfl, ⟨by decide +kernel, by decide +kernel⟩, by decide +kernel, by decide, rfl, by decide⟩
theorem b9_tree : MB 0 1 i9_tree := ⟨m_3 (i := 107) rfl, m_1 (i := 1) rfl, ⟨by decide +kernel, by decide +kernel⟩, by decide +kernel, by decide, rfl, by decide⟩
theorem b9_replaceInTree : MB 2 1 i9_replaceInTree := ⟨m_3 (i := 111) rfl, m_1 (i := 1) rfl, ⟨by decide +kernel, by decide +kernel⟩, by decide +kernel, by decide, rfl, by decide⟩
theorem b9_change : MB 1 1 i9_change := ⟨m_3 (i := 117) rfl, m_1 (i := 1) rfl, ⟨by decide +kernel, by decide +kernel⟩, by decide +kernel, by decide, rfl, by decide⟩
theorem b5_has : MB 1 1 i5_has := ⟨m_3 (i := 121) rfl, m_1 (i := 5) rfl, ⟨by decide +kernel, by decide +kernel⟩, by decide +kernel, by decide, rfl, by decide⟩
theorem b9_place : MB 0 1 i9_place := ⟨m_3 (i := 125) rfl, m_1 (i := 1) rfl, ⟨by decide +kernel, by decide +kernel⟩, by decide +kernel, by decide, rfl, by decide⟩
theorem b9_count : MB 1 1 i9_count := ⟨m_3 (i := 129) rfl, m_1 (i := 1) rfl, ⟨by decide +kernel, by decide +kernel⟩, by decide +kernel, by decide, rfl, by decide⟩
theorem b4_patternsIn : MB 0 1 i4_patternsIn := ⟨m_3 (i := 133) rfl, m_1 (i := 11) rfl, ⟨by decide +kernel, by decide +kernel⟩, by decide +kernel, by decide, rfl, by decide⟩
theorem b6_isInNet : MB 0 1 i6_isInNet := ⟨m_3 (i := 137) rfl, m_1 (i := 6) rfl, ⟨by decide +kernel, by decide +kernel⟩, by decide +kernel, by decide, rfl, by decide⟩
theorem b4_stepsIn : MB 0 1 i4_stepsIn := ⟨m_3 (i := 141) rfl, m_1 (i := 11) rfl, ⟨by decide +kernel, by decide +kernel⟩, by decide +kernel, by decide, rfl, by decide⟩
theorem b4_stepsOfOthers : MB 1 1 i4_stepsOfOthers := ⟨m_3 (i := 145) rfl, m_1 (i := 11) rfl, ⟨by decide +kernel, by decide +kernel⟩, by decide +kernel, by decide, rfl, by decide⟩
theorem b4_likeMarks : MB 2 1 i4_likeMarks := ⟨m_3 (i := 149) rfl, m_1 (i := 11) rfl, ⟨by decide +kernel, by decide +kernel⟩, by decide +kernel, by decide, rfl, by decide⟩
theorem b4_isLikeMark : MB 3 1 i4_isLikeMark := ⟨m_3 (i := 156) rfl, m_1 (i := 11) rfl, ⟨by decide +kernel, by decide +kernel⟩, by decide +kernel, by decide, rfl, by decide⟩
theorem b4_marksIn : MB 0 1 i4_marksIn := ⟨m_3 (i := 161) rfl, m_1 (i := 11) rfl, ⟨by decide +kernel, by decide +kernel⟩, by decide +kernel, by decide, rfl, by decide⟩
theorem b9_told : MB 2 1 i9_told := ⟨m_3 (i := 165) rfl, m_1 (i := 1) rfl, ⟨by decide +kernel, by decide +kernel⟩, by decide +kernel, by decide, rfl, by decide⟩
theorem b9_node : MB 2 2 i9_node := ⟨m_3 (i := 170) rfl, m_1 (i := 1) rfl, ⟨by decide +kernel, by decide +kernel⟩, by decide +kernel, by decide, rfl, by decide⟩
theorem b2_kindOfNode : MB 2 1 i2_kindOfNode := ⟨m_3 (i := 175) rfl, m_1 (i := 2) rfl, ⟨by decide +kernel, by decide +kernel⟩, by decide +kernel, by decide, rfl, by decide⟩
theorem b9_alike : MB 2 1 i9_alike := ⟨m_3 (i := 180) rfl, m_1 (i := 1) rfl, ⟨by decide +kernel, by decide +kernel⟩, by decide +kernel, by decide, rfl, by decide⟩
theorem b5_areAlike : MB 2 1 i5_areAlike := ⟨m_3 (i := 184) rfl, m_1 (i := 5) rfl, ⟨by decide +kernel, by decide +kernel⟩, by decide +kernel, by decide, rfl, by decide⟩
theorem b9_ask : MB 0 1 i9_ask := ⟨m_3 (i := 189) rfl, m_1 (i := 1) rfl, ⟨by decide +kernel, by decide +kernel⟩, by decide +kernel, by decide, rfl, by decide⟩
theorem b9_askAll : MB 0 0 i9_askAll := ⟨m_3 (i := 193) rfl, m_1 (i := 1) rfl, ⟨by decide +kernel, by decide +kernel⟩, by decide +kernel, by decide, rfl, by decide⟩
theorem b3_run : MB 4 0 i3_run := ⟨m_3 (i := 197) rfl, m_1 (i := 9) rfl, ⟨by decide +kernel, by decide +kernel⟩, by decide +kernel, by decide, rfl, by decide⟩
theorem b0_clear : MB 0 0 i0_clear := ⟨m_3 (i := 201) rfl, m_1 (i := 7) rfl, ⟨by decide +kernel, by decide +kernel⟩, by decide +kernel, by decide, rfl, by decide⟩
theorem b3_chain : MB 3 1 i3_chain := ⟨m_3 (i := 205) rfl, m_1 (i := 9) rfl, ⟨by decide +kernel, by decide +kernel⟩, by decide +kernel, by decide, rfl, by decide⟩
theorem b3_walk : MB 2 1 i3_walk := ⟨m_3 (i := 209) rfl, m_1 (i := 9) rfl, ⟨by decide +kernel, by decide +kernel⟩, by decide +kernel, by decide, rfl, by decide⟩
theorem b3_keepFilling : MB 0 1 i3_keepFilling := ⟨m_3 (i := 213) rfl, m_1 (i := 9) rfl, ⟨by decide +kernel, by decide +kernel⟩, by decide +kernel, by decide, rfl, by decide⟩
theorem b0_keep : MB 1 0 i0_keep := ⟨m_3 (i := 217) rfl, m_1 (i := 7) rfl, ⟨by decide +kernel, by decide +kernel⟩, by decide +kernel, by decide, rfl, by decide⟩
theorem b0_holds : MB 1 1 i0_holds := ⟨m_3 (i := 221) rfl, m_1 (i := 7) rfl, ⟨by decide +kernel, by decide +kernel⟩, by decide +kernel, by decide, rfl, by decide⟩
theorem b0_nodeOf : MB 2 1 i0_nodeOf := ⟨m_3 (i := 225) rfl, m_1 (i := 7) rfl, ⟨by decide +kernel, by decide +kernel⟩, by decide +kernel, by decide, rfl, by decide⟩
theorem b3_mayTry : MB 0 1 i3_mayTry := ⟨m_3 (i := 232) rfl, m_1 (i := 9) rfl, ⟨by decide +kernel, by decide +kernel⟩, by decide +kernel, by decide, rfl, by decide⟩
theorem b3_walkParts : MB 2 1 i3_walkParts := ⟨m_3 (i := 237) rfl, m_1 (i := 9) rfl, ⟨by decide +kernel, by decide +kernel⟩, by decide +kernel, by decide, rfl, by decide⟩
theorem b3_chainParts : MB 3 1 i3_chainParts := ⟨m_4 (i := 5) rfl, m_1 (i := 9) rfl, ⟨by decide +kernel, by decide +kernel⟩, by decide +kernel, by decide, rfl, by decide⟩
theorem b5_partOf : MB 2 1 i5_partOf := ⟨m_4 (i := 11) rfl, m_1 (i := 5) rfl, ⟨by decide +kernel, by decide +kernel⟩, by decide +kernel, by decide, rfl, by decide⟩
theorem b3_isNumber : MB 2 1 i3_isNumber := ⟨m_4 (i := 15) rfl, m_1 (i := 9) rfl, ⟨by decide +kernel, by decide +kernel⟩, by decide +kernel, by decide, rfl, by decide⟩
theorem b3_walkHole : MB 2 1 i3_walkHole := ⟨m_4 (i := 19) rfl, m_1 (i := 9) rfl, ⟨by decide +kernel, by decide +kernel⟩, by decide +kernel, by decide, rfl, by decide⟩
theorem b3_fitsHole : MB 5 1 i3_fitsHole := ⟨m_4 (i := 22) rfl, m_1 (i := 9) rfl, ⟨by decide +kernel, by decide +kernel⟩, by decide +kernel, by decide, rfl, by decide⟩
theorem b5_spanHolds : MB 2 1 i5_spanHolds := ⟨m_4 (i := 28) rfl, m_1 (i := 5) rfl, ⟨by decide +kernel, by decide +kernel⟩, by decide +kernel, by decide, rfl, by decide⟩
theorem b3_walkBelow : MB 2 1 i3_walkBelow := ⟨m_4 (i := 33) rfl, m_1 (i := 9) rfl, ⟨by decide +kernel, by decide +kernel⟩, by decide +kernel, by decide, rfl, by decide⟩
theorem b3_walkFrom : MB 4 1 i3_walkFrom := ⟨m_4 (i := 37) rfl, m_1 (i := 9) rfl, ⟨by decide +kernel, by decide +kernel⟩, by decide +kernel, by decide, rfl, by decide⟩
theorem b3_walkNowhere : MB 2 1 i3_walkNowhere := ⟨m_4 (i := 41) rfl, m_1 (i := 9) rfl, ⟨by decide +kernel, by decide +kernel⟩, by decide +kernel, by decide, rfl, by decide⟩
theorem b9_addFitting : MB 1 0 i9_addFitting := ⟨m_4 (i := 45) rfl, m_1 (i := 1) rfl, ⟨by decide +kernel, by decide +kernel⟩, by decide +kernel, by decide, rfl, by decide⟩
theorem b9_fit : MB 1 1 i9_fit := ⟨m_4 (i := 49) rfl, m_1 (i := 1) rfl, ⟨by decide +kernel, by decide +kernel⟩, by decide +kernel, by decide, rfl, by decide⟩
theorem b9_fillings : MB 1 1 i9_fillings := ⟨m_4 (i := 53) rfl, m_1 (i := 1) rfl, ⟨by decide +kernel, by decide +kernel⟩, by decide +kernel, by decide, rfl, by decide⟩
theorem b9_filling : MB 3 1 i9_filling := ⟨m_4 (i := 57) rfl, m_1 (i := 1) rfl, ⟨by decide +kernel, by decide +kernel⟩, by decide +kernel, by decide, rfl, by decide⟩
theorem b0_has : MB 1 1 i0_has := ⟨m_4 (i := 61) rfl, m_1 (i := 7) rfl, ⟨by decide +kernel, by decide +kernel⟩, by decide +kernel, by decide, rfl, by decide⟩
theorem b9_asked : MB 2 1 i9_asked := ⟨m_4 (i := 66) rfl, m_1 (i := 1) rfl, ⟨by decide +kernel, by decide +kernel⟩, by decide +kernel, by decide, rfl, by decide⟩
theorem b9_at : MB 2 1 i9_at := ⟨m_4 (i := 70) rfl, m_1 (i := 1) rfl, ⟨by decide +kernel, by decide +kernel⟩, by decide +kernel, by decide, rfl, by decide⟩
theorem b9_found : MB 2 1 i9_found := ⟨m_4 (i := 74) rfl, m_1 (i := 1) rfl, ⟨by decide +kernel, by decide +kernel⟩, by decide +kernel, by decide, rfl, by decide⟩
theorem b1_nodeFound : MB 2 1 i1_nodeFound := ⟨m_4 (i := 78) rfl, m_1 (i := 10) rfl, ⟨by decide +kernel, by decide +kernel⟩, by decide +kernel, by decide, rfl, by decide⟩
theorem b9_looks : MB 1 1 i9_looks := ⟨m_4 (i := 83) rfl, m_1 (i := 1) rfl, ⟨by decide +kernel, by decide +kernel⟩, by decide +kernel, by decide, rfl, by decide⟩
theorem b4_looksAtTree : MB 1 1 i4_looksAtTree := ⟨m_4 (i := 87) rfl, m_1 (i := 11) rfl, ⟨by decide +kernel, by decide +kernel⟩, by decide +kernel, by decide, rfl, by decide⟩
theorem b4_marksThatGo : MB 1 1 i4_marksThatGo := ⟨m_4 (i := 91) rfl, m_1 (i := 11) rfl, ⟨by decide +kernel, by decide +kernel⟩, by decide +kernel, by decide, rfl, by decide⟩
theorem b4_goes : MB 3 1 i4_goes := ⟨m_4 (i := 96) rfl, m_1 (i := 11) rfl, ⟨by decide +kernel, by decide +kernel⟩, by decide +kernel, by decide, rfl, by decide⟩
theorem b9_parts : MB 2 1 i9_parts := ⟨m_4 (i := 102) rfl, m_1 (i := 1) rfl, ⟨by decide +kernel, by decide +kernel⟩, by decide +kernel, by decide, rfl, by decide⟩
theorem b9_shared : MB 2 1 i9_shared := ⟨m_4 (i := 107) rfl, m_1 (i := 1) rfl, ⟨by decide +kernel, by decide +kernel⟩, by decide +kernel, by decide, rfl, by decide⟩
theorem b9_clash : MB 2 1 i9_clash := ⟨m_4 (i := 112) rfl, m_1 (i := 1) rfl, ⟨by decide +kernel, by decide +kernel⟩, by decide +kernel, by decide, rfl, by decide⟩
theorem b6_hasNameTwice : MB 0 1 i6_hasNameTwice := ⟨m_4 (i := 116) rfl, m_1 (i := 6) rfl, ⟨by decide +kernel, by decide +kernel⟩, by decide +kernel, by decide, rfl, by decide⟩
theorem b4_haveTreeInCommon : MB 2 1 i4_haveTreeInCommon := ⟨m_4 (i := 120) rfl, m_1 (i := 11) rfl, ⟨by decide +kernel, by decide +kernel⟩, by decide +kernel, by decide, rfl, by decide⟩
theorem b4_agree : MB 4 1 i4_agree := ⟨m_4 (i := 124) rfl, m_1 (i := 11) rfl, ⟨by decide +kernel, by decide +kernel⟩, by decide +kernel, by decide, rfl, by decide⟩
theorem b4_holesAgree : MB 4 1 i4_holesAgree := ⟨m_4 (i := 128) rfl, m_1 (i := 11) rfl, ⟨by decide +kernel, by decide +kernel⟩, by decide +kernel, by decide, rfl, by decide⟩
theorem b2_someHeadBelow : MB 1 1 i2_someHeadBelow := ⟨m_4 (i := 133) rfl, m_1 (i := 2) rfl, ⟨by decide +kernel, by decide +kernel⟩, by decide +kernel, by decide, rfl, by decide⟩
theorem b4_holeTakes : MB 4 1 i4_holeTakes := ⟨m_4 (i := 142) rfl, m_1 (i := 11) rfl, ⟨by decide +kernel, by decide +kernel⟩, by decide +kernel, by decide, rfl, by decide⟩
theorem b9_print : MB 1 1 i9_print := ⟨m_4 (i := 146) rfl, m_1 (i := 1) rfl, ⟨by decide +kernel, by decide +kernel⟩, by decide +kernel, by decide, rfl, by decide⟩
theorem b11_write : MB 3 1 i11_write := ⟨m_4 (i := 149) rfl, m_1 (i := 14) rfl, ⟨by decide +kernel, by decide +kernel⟩, by decide +kernel, by decide, rfl, by decide⟩
theorem b11_writeNode : MB 3 0 i11_writeNode := ⟨m_4 (i := 153) rfl, m_1 (i := 14) rfl, ⟨by decide +kernel, by decide +kernel⟩, by decide +kernel, by decide, rfl, by decide⟩
theorem b8_addNumber : MB 1 0 i8_addNumber := ⟨m_4 (i := 158) rfl, m_1 (i := 3) rfl, ⟨by decide +kernel, by decide +kernel⟩, by decide +kernel, by decide, rfl, by decide⟩
theorem b11_writeHole : MB 3 0 i11_writeHole := ⟨m_4 (i := 165) rfl, m_1 (i := 14) rfl, ⟨by decide +kernel, by decide +kernel⟩, by decide +kernel, by decide, rfl, by decide⟩
theorem b11_writeBehind : MB 4 0 i11_writeBehind := ⟨m_4 (i := 168) rfl, m_1 (i := 14) rfl, ⟨by decide +kernel, by decide +kernel⟩, by decide +kernel, by decide, rfl, by decide⟩
theorem b9_printNode : MB 1 1 i9_printNode := ⟨m_4 (i := 172) rfl, m_1 (i := 1) rfl, ⟨by decide +kernel, by decide +kernel⟩, by decide +kernel, by decide, rfl, by decide⟩
theorem b9_out : MB 1 1 i9_out := ⟨m_4 (i := 176) rfl, m_1 (i := 1) rfl, ⟨by decide +kernel, by decide +kernel⟩, by decide +kernel, by decide, rfl, by decide⟩
theorem b9_back : MB 0 1 i9_back := ⟨m_4 (i := 181) rfl, m_1 (i := 1) rfl, ⟨by decide +kernel, by decide +kernel⟩, by decide +kernel, by decide, rfl, by decide⟩
theorem b10_init : MB 0 0 i10_init := ⟨m_4 (i := 187) rfl, m_1 (i := 12) rfl, ⟨by decide +kernel, by decide +kernel⟩, by decide +kernel, by decide, rfl, by decide⟩
theorem b10_kind : MB 1 1 i10_kind := ⟨m_5 (i := 194) rfl, m_1 (i := 12) rfl, ⟨by decide +kernel, by decide +kernel⟩, by decide +kernel, by decide, rfl, by decide⟩
theorem b10_noKind : MB 1 1 i10_noKind := ⟨m_5 (i := 198) rfl, m_1 (i := 12) rfl, ⟨by decide +kernel, by decide +kernel⟩, by decide +kernel, by decide, rfl, by decide⟩
theorem b10_in : MB 3 1 i10_in := ⟨m_5 (i := 201) rfl, m_1 (i := 12) rfl, ⟨by decide +kernel, by decide +kernel⟩, by decide +kernel, by decide, rfl, by decide⟩
theorem b10_isUnder : MB 2 1 i10_isUnder := ⟨m_5 (i := 205) rfl, m_1 (i := 12) rfl, ⟨by decide +kernel, by decide +kernel⟩, by decide +kernel, by decide, rfl, by decide⟩
theorem b10_lies : MB 2 1 i10_lies := ⟨m_5 (i := 209) rfl, m_1 (i := 12) rfl, ⟨by decide +kernel, by decide +kernel⟩, by decide +kernel, by decide, rfl, by decide⟩
theorem b10_head : MB 3 1 i10_head := ⟨m_5 (i := 213) rfl, m_1 (i := 12) rfl, ⟨by decide +kernel, by decide +kernel⟩, by decide +kernel, by decide, rfl, by decide⟩
theorem b10_feed : MB 5 1 i10_feed := ⟨m_5 (i := 218) rfl, m_1 (i := 12) rfl, ⟨by decide +kernel, by decide +kernel⟩, by decide +kernel, by decide, rfl, by decide⟩
theorem b10_four : MB 1 0 i10_four := ⟨m_5 (i := 222) rfl, m_1 (i := 12) rfl, ⟨by decide +kernel, by decide +kernel⟩, by decide +kernel, by decide, rfl, by decide⟩
theorem b10_cut : MB 1 1 i10_cut := ⟨m_5 (i := 226) rfl, m_1 (i := 12) rfl, ⟨by decide +kernel, by decide +kernel⟩, by decide +kernel, by decide, rfl, by decide⟩
theorem b10_place : MB 0 1 i10_place := ⟨m_5 (i := 230) rfl, m_1 (i := 12) rfl, ⟨by decide +kernel, by decide +kernel⟩, by decide +kernel, by decide, rfl, by decide⟩
theorem b10_pattern : MB 1 1 i10_pattern := ⟨m_5 (i := 234) rfl, m_1 (i := 12) rfl, ⟨by decide +kernel, by decide +kernel⟩, by decide +kernel, by decide, rfl, by decide⟩
theorem b10_read : MB 2 0 i10_read := ⟨m_5 (i := 239) rfl, m_1 (i := 12) rfl, ⟨by decide +kernel, by decide +kernel⟩, by decide +kernel, by decide, rfl, by decide⟩
theorem b10_fine : MB 0 1 i10_fine := ⟨m_6 (i := 3) rfl, m_1 (i := 12) rfl, ⟨by decide +kernel, by decide +kernel⟩, by decide +kernel, by decide, rfl, by decide⟩
theorem b10_readNode : MB 0 0 i10_readNode := ⟨m_6 (i := 7) rfl, m_1 (i := 12) rfl, ⟨by decide +kernel, by decide +kernel⟩, by decide +kernel, by decide, rfl, by decide⟩
theorem b10_blanks : MB 0 0 i10_blanks := ⟨m_6 (i := 11) rfl, m_1 (i := 12) rfl, ⟨by decide +kernel, by decide +kernel⟩, by decide +kernel, by decide, rfl, by decide⟩
theorem b10_here : MB 0 1 i10_here := ⟨m_6 (i := 15) rfl, m_1 (i := 12) rfl, ⟨by decide +kernel, by decide +kernel⟩, by decide +kernel, by decide, rfl, by decide⟩
theorem b10_readLetter : MB 1 0 i10_readLetter := ⟨m_6 (i := 21) rfl, m_1 (i := 12) rfl, ⟨by decide +kernel, by decide +kernel⟩, by decide +kernel, by decide, rfl, by decide⟩
theorem b10_wrong : MB 2 0 i10_wrong := ⟨m_6 (i := 25) rfl, m_1 (i := 12) rfl, ⟨by decide +kernel, by decide +kernel⟩, by decide +kernel, by decide, rfl, by decide⟩
theorem b10_newNode : MB 1 1 i10_newNode := ⟨m_6 (i := 29) rfl, m_1 (i := 12) rfl, ⟨by decide +kernel, by decide +kernel⟩, by decide +kernel, by decide, rfl, by decide⟩
theorem b10_deeper : MB 0 0 i10_deeper := ⟨m_6 (i := 33) rfl, m_1 (i := 12) rfl, ⟨by decide +kernel, by decide +kernel⟩, by decide +kernel, by decide, rfl, by decide⟩
theorem b10_push : MB 1 0 i10_push := ⟨m_6 (i := 37) rfl, m_1 (i := 12) rfl, ⟨by decide +kernel, by decide +kernel⟩, by decide +kernel, by decide, rfl, by decide⟩
theorem b10_ended : MB 1 0 i10_ended := ⟨m_6 (i := 41) rfl, m_1 (i := 12) rfl, ⟨by decide +kernel, by decide +kernel⟩, by decide +kernel, by decide, rfl, by decide⟩
theorem b10_isDigit : MB 1 1 i10_isDigit := ⟨m_6 (i := 44) rfl, m_1 (i := 12) rfl, ⟨by decide +kernel, by decide +kernel⟩, by decide +kernel, by decide, rfl, by decide⟩
theorem b10_number : MB 1 2 i10_number := ⟨m_6 (i := 50) rfl, m_1 (i := 12) rfl, ⟨by decide +kernel, by decide +kernel⟩, by decide +kernel, by decide, rfl, by decide⟩
theorem b10_digitsFrom : MB 1 1 i10_digitsFrom := ⟨m_6 (i := 54) rfl, m_1 (i := 12) rfl, ⟨by decide +kernel, by decide +kernel⟩, by decide +kernel, by decide, rfl, by decide⟩
theorem b10_digits : MB 1 2 i10_digits := ⟨m_6 (i := 58) rfl, m_1 (i := 12) rfl, ⟨by decide +kernel, by decide +kernel⟩, by decide +kernel, by decide, rfl, by decide⟩
theorem b10_readHole : MB 0 0 i10_readHole := ⟨m_6 (i := 63) rfl, m_1 (i := 12) rfl, ⟨by decide +kernel, by decide +kernel⟩, by decide +kernel, by decide, rfl, by decide⟩
theorem b10_readSpan : MB 1 0 i10_readSpan := ⟨m_6 (i := 67) rfl, m_1 (i := 12) rfl, ⟨by decide +kernel, by decide +kernel⟩, by decide +kernel, by decide, rfl, by decide⟩
theorem b10_take : MB 1 0 i10_take := ⟨m_6 (i := 71) rfl, m_1 (i := 12) rfl, ⟨by decide +kernel, by decide +kernel⟩, by decide +kernel, by decide, rfl, by decide⟩
theorem b10_drop : MB 1 1 i10_drop := ⟨m_6 (i := 75) rfl, m_1 (i := 12) rfl, ⟨by decide +kernel, by decide +kernel⟩, by decide +kernel, by decide, rfl, by decide⟩
theorem b10_noPattern : MB 1 1 i10_noPattern := ⟨m_6 (i := 79) rfl, m_1 (i := 12) rfl, ⟨by decide +kernel, by decide +kernel⟩, by decide +kernel, by decide, rfl, by decide⟩
theorem b10_tree : MB 0 1 i10_tree := ⟨m_6 (i := 84) rfl, m_1 (i := 12) rfl, ⟨by decide +kernel, by decide +kernel⟩, by decide +kernel, by decide, rfl, by decide⟩
theorem b10_findUps : MB 0 0 i10_findUps := ⟨m_6 (i := 88) rfl, m_1 (i := 12) rfl, ⟨by decide +kernel, by decide +kernel⟩, by decide +kernel, by decide, rfl, by decide⟩
theorem b10_change : MB 1 1 i10_change := ⟨m_6 (i := 92) rfl, m_1 (i := 12) rfl, ⟨by decide +kernel, by decide +kernel⟩, by decide +kernel, by decide, rfl, by decide⟩
theorem b10_noNode : MB 1 1 i10_noNode := ⟨m_6 (i := 96) rfl, m_1 (i := 12) rfl, ⟨by decide +kernel, by decide +kernel⟩, by decide +kernel, by decide, rfl, by decide⟩
theorem b10_count : MB 1 1 i10_count := ⟨m_6 (i := 100) rfl, m_1 (i := 12) rfl, ⟨by decide +kernel, by decide +kernel⟩, by decide +kernel, by decide, rfl, by decide⟩
theorem b10_netSize : MB 1 1 i10_netSize := ⟨m_6 (i := 104) rfl, m_1 (i := 12) rfl, ⟨by decide +kernel, by decide +kernel⟩, by decide +kernel, by decide, rfl, by decide⟩
theorem b10_inNet : MB 1 1 i10_inNet := ⟨m_6 (i := 108) rfl, m_1 (i := 12) rfl, ⟨by decide +kernel, by decide +kernel⟩, by decide +kernel, by decide, rfl, by decide⟩
theorem b10_oddOf : MB 1 1 i10_oddOf := ⟨m_6 (i := 112) rfl, m_1 (i := 12) rfl, ⟨by decide +kernel, by decide +kernel⟩, by decide +kernel, by decide, rfl, by decide⟩
theorem b10_steps : MB 0 1 i10_steps := ⟨m_6 (i := 116) rfl, m_1 (i := 12) rfl, ⟨by decide +kernel, by decide +kernel⟩, by decide +kernel, by decide, rfl, by decide⟩
theorem b10_isNew : MB 2 1 i10_isNew := ⟨m_6 (i := 120) rfl, m_1 (i := 12) rfl, ⟨by decide +kernel, by decide +kernel⟩, by decide +kernel, by decide, rfl, by decide⟩
theorem b10_common : MB 2 1 i10_common := ⟨m_6 (i := 124) rfl, m_1 (i := 12) rfl, ⟨by decide +kernel, by decide +kernel⟩, by decide +kernel, by decide, rfl, by decide⟩
theorem b10_areMarksLike : MB 3 1 i10_areMarksLike := ⟨m_6 (i := 128) rfl, m_1 (i := 12) rfl, ⟨by decide +kernel, by decide +kernel⟩, by decide +kernel, by decide, rfl, by decide⟩
theorem b10_againOf : MB 2 1 i10_againOf := ⟨m_6 (i := 132) rfl, m_1 (i := 12) rfl, ⟨by decide +kernel, by decide +kernel⟩, by decide +kernel, by decide, rfl, by decide⟩
theorem b10_told : MB 2 1 i10_told := ⟨m_6 (i := 136) rfl, m_1 (i := 12) rfl, ⟨by decide +kernel, by decide +kernel⟩, by decide +kernel, by decide, rfl, by decide⟩
theorem b10_namesOf : MB 2 1 i10_namesOf := ⟨m_6 (i := 140) rfl, m_1 (i := 12) rfl, ⟨by decide +kernel, by decide +kernel⟩, by decide +kernel, by decide, rfl, by decide⟩
theorem b10_node : MB 2 2 i10_node := ⟨m_6 (i := 144) rfl, m_1 (i := 12) rfl, ⟨by decide +kernel, by decide +kernel⟩, by decide +kernel, by decide, rfl, by decide⟩
theorem b10_kindOf : MB 1 1 i10_kindOf := ⟨m_6 (i := 149) rfl, m_1 (i := 12) rfl, ⟨by decide +kernel, by decide +kernel⟩, by decide +kernel, by decide, rfl, by decide⟩
theorem b10_alike : MB 2 1 i10_alike := ⟨m_6 (i := 154) rfl, m_1 (i := 12) rfl, ⟨by decide +kernel, by decide +kernel⟩, by decide +kernel, by decide, rfl, by decide⟩
theorem b10_areAlike : MB 2 1 i10_areAlike := ⟨m_6 (i := 158) rfl, m_1 (i := 12) rfl, ⟨by decide +kernel, by decide +kernel⟩, by decide +kernel, by decide, rfl, by decide⟩
theorem b10_ask : MB 0 1 i10_ask := ⟨m_6 (i := 162) rfl, m_1 (i := 12) rfl, ⟨by decide +kernel, by decide +kernel⟩, by decide +kernel, by decide, rfl, by decide⟩
theorem b10_fitAll : MB 2 0 i10_fitAll := ⟨m_6 (i := 166) rfl, m_1 (i := 12) rfl, ⟨by decide +kernel, by decide +kernel⟩, by decide +kernel, by decide, rfl, by decide⟩
theorem b10_goal : MB 3 1 i10_goal := ⟨m_6 (i := 170) rfl, m_1 (i := 12) rfl, ⟨by decide +kernel, by decide +kernel⟩, by decide +kernel, by decide, rfl, by decide⟩
theorem b10_keep : MB 0 0 i10_keep := ⟨m_6 (i := 174) rfl, m_1 (i := 12) rfl, ⟨by decide +kernel, by decide +kernel⟩, by decide +kernel, by decide, rfl, by decide⟩
theorem b10_doGoal : MB 0 1 i10_doGoal := ⟨m_6 (i := 178) rfl, m_1 (i := 12) rfl, ⟨by decide +kernel, by decide +kernel⟩, by decide +kernel, by decide, rfl, by decide⟩
theorem b10_choose : MB 5 0 i10_choose := ⟨m_6 (i := 182) rfl, m_1 (i := 12) rfl, ⟨by decide +kernel, by decide +kernel⟩, by decide +kernel, by decide, rfl, by decide⟩
theorem b10_partsBy : MB 4 1 i10_partsBy := ⟨m_6 (i := 186) rfl, m_1 (i := 12) rfl, ⟨by decide +kernel, by decide +kernel⟩, by decide +kernel, by decide, rfl, by decide⟩
theorem b10_order : MB 2 0 i10_order := ⟨m_6 (i := 190) rfl, m_1 (i := 12) rfl, ⟨by decide +kernel, by decide +kernel⟩, by decide +kernel, by decide, rfl, by decide⟩
theorem b10_partOf : MB 3 1 i10_partOf := ⟨m_6 (i := 194) rfl, m_1 (i := 12) rfl, ⟨by decide +kernel, by decide +kernel⟩, by decide +kernel, by decide, rfl, by decide⟩
theorem b10_treePart : MB 2 1 i10_treePart := ⟨m_6 (i := 198) rfl, m_1 (i := 12) rfl, ⟨by decide +kernel, by decide +kernel⟩, by decide +kernel, by decide, rfl, by decide⟩
theorem b10_holds : MB 2 1 i10_holds := ⟨m_6 (i := 202) rfl, m_1 (i := 12) rfl, ⟨by decide +kernel, by decide +kernel⟩, by decide +kernel, by decide, rfl, by decide⟩
theorem b10_goBack : MB 0 1 i10_goBack := ⟨m_6 (i := 206) rfl, m_1 (i := 12) rfl, ⟨by decide +kernel, by decide +kernel⟩, by decide +kernel, by decide, rfl, by decide⟩
theorem b10_orders : MB 1 1 i10_orders := ⟨m_6 (i := 209) rfl, m_1 (i := 12) rfl, ⟨by decide +kernel, by decide +kernel⟩, by decide +kernel, by decide, rfl, by decide⟩
theorem b10_fit : MB 1 1 i10_fit := ⟨m_6 (i := 213) rfl, m_1 (i := 12) rfl, ⟨by decide +kernel, by decide +kernel⟩, by decide +kernel, by decide, rfl, by decide⟩
theorem b10_isAhead : MB 2 1 i10_isAhead := ⟨m_6 (i := 217) rfl, m_1 (i := 12) rfl, ⟨by decide +kernel, by decide +kernel⟩, by decide +kernel, by decide, rfl, by decide⟩
theorem b10_fillings : MB 1 1 i10_fillings := ⟨m_6 (i := 221) rfl, m_1 (i := 12) rfl, ⟨by decide +kernel, by decide +kernel⟩, by decide +kernel, by decide, rfl, by decide⟩
theorem b10_filling : MB 3 1 i10_filling := ⟨m_6 (i := 225) rfl, m_1 (i := 12) rfl, ⟨by decide +kernel, by decide +kernel⟩, by decide +kernel, by decide, rfl, by decide⟩
theorem b10_asked : MB 2 1 i10_asked := ⟨m_6 (i := 230) rfl, m_1 (i := 12) rfl, ⟨by decide +kernel, by decide +kernel⟩, by decide +kernel, by decide, rfl, by decide⟩
theorem b10_at : MB 2 1 i10_at := ⟨m_6 (i := 235) rfl, m_1 (i := 12) rfl, ⟨by decide +kernel, by decide +kernel⟩, by decide +kernel, by decide, rfl, by decide⟩
theorem b10_found : MB 2 1 i10_found := ⟨m_6 (i := 239) rfl, m_1 (i := 12) rfl, ⟨by decide +kernel, by decide +kernel⟩, by decide +kernel, by decide, rfl, by decide⟩
theorem b10_looks : MB 1 1 i10_looks := ⟨m_7 (i := 3) rfl, m_1 (i := 12) rfl, ⟨by decide +kernel, by decide +kernel⟩, by decide +kernel, by decide, rfl, by decide⟩
theorem b10_goesWith : MB 1 1 i10_goesWith := ⟨m_7 (i := 7) rfl, m_1 (i := 12) rfl, ⟨by decide +kernel, by decide +kernel⟩, by decide +kernel, by decide, rfl, by decide⟩
theorem b10_parts : MB 2 1 i10_parts := ⟨m_7 (i := 11) rfl, m_1 (i := 12) rfl, ⟨by decide +kernel, by decide +kernel⟩, by decide +kernel, by decide, rfl, by decide⟩
theorem b10_shared : MB 2 1 i10_shared := ⟨m_7 (i := 15) rfl, m_1 (i := 12) rfl, ⟨by decide +kernel, by decide +kernel⟩, by decide +kernel, by decide, rfl, by decide⟩
theorem b10_clash : MB 2 1 i10_clash := ⟨m_7 (i := 19) rfl, m_1 (i := 12) rfl, ⟨by decide +kernel, by decide +kernel⟩, by decide +kernel, by decide, rfl, by decide⟩
theorem b10_meet : MB 2 1 i10_meet := ⟨m_7 (i := 23) rfl, m_1 (i := 12) rfl, ⟨by decide +kernel, by decide +kernel⟩, by decide +kernel, by decide, rfl, by decide⟩
theorem b10_canHole : MB 2 1 i10_canHole := ⟨m_7 (i := 27) rfl, m_1 (i := 12) rfl, ⟨by decide +kernel, by decide +kernel⟩, by decide +kernel, by decide, rfl, by decide⟩
theorem b10_hasHead : MB 2 1 i10_hasHead := ⟨m_7 (i := 33) rfl, m_1 (i := 12) rfl, ⟨by decide +kernel, by decide +kernel⟩, by decide +kernel, by decide, rfl, by decide⟩
theorem b10_canBe : MB 3 1 i10_canBe := ⟨m_7 (i := 37) rfl, m_1 (i := 12) rfl, ⟨by decide +kernel, by decide +kernel⟩, by decide +kernel, by decide, rfl, by decide⟩
theorem b10_print : MB 1 1 i10_print := ⟨m_7 (i := 41) rfl, m_1 (i := 12) rfl, ⟨by decide +kernel, by decide +kernel⟩, by decide +kernel, by decide, rfl, by decide⟩
theorem b10_putHead : MB 1 0 i10_putHead := ⟨m_7 (i := 45) rfl, m_1 (i := 12) rfl, ⟨by decide +kernel, by decide +kernel⟩, by decide +kernel, by decide, rfl, by decide⟩
theorem b10_put : MB 1 0 i10_put := ⟨m_7 (i := 49) rfl, m_1 (i := 12) rfl, ⟨by decide +kernel, by decide +kernel⟩, by decide +kernel, by decide, rfl, by decide⟩
theorem b10_shutAll : MB 0 0 i10_shutAll := ⟨m_7 (i := 53) rfl, m_1 (i := 12) rfl, ⟨by decide +kernel, by decide +kernel⟩, by decide +kernel, by decide, rfl, by decide⟩
theorem b10_putNumber : MB 1 0 i10_putNumber := ⟨m_7 (i := 57) rfl, m_1 (i := 12) rfl, ⟨by decide +kernel, by decide +kernel⟩, by decide +kernel, by decide, rfl, by decide⟩
theorem b10_putHole : MB 1 0 i10_putHole := ⟨m_7 (i := 61) rfl, m_1 (i := 12) rfl, ⟨by decide +kernel, by decide +kernel⟩, by decide +kernel, by decide, rfl, by decide⟩
theorem b10_printNode : MB 1 1 i10_printNode := ⟨m_7 (i := 65) rfl, m_1 (i := 12) rfl, ⟨by decide +kernel, by decide +kernel⟩, by decide +kernel, by decide, rfl, by decide⟩
theorem b10_out : MB 1 1 i10_out := ⟨m_7 (i := 69) rfl, m_1 (i := 12) rfl, ⟨by decide +kernel, by decide +kernel⟩, by decide +kernel, by decide, rfl, by decide⟩
theorem b10_back : MB 0 1 i10_back := ⟨m_7 (i := 73) rfl, m_1 (i := 12) rfl, ⟨by decide +kernel, by decide +kernel⟩, by decide +kernel, by decide, rfl, by decide⟩
theorem f0_11 : FOk 0 11 (0, 0, 3, 20) := ⟨by decide, by decide, by decide, rfl, m_1 (i := 169) rfl⟩
theorem f0_15 : FOk 0 15 (0, 1, 0, 0) := ⟨by decide, by decide, by decide, rfl, m_1 (i := 170) rfl⟩
theorem f0_19 : FOk 0 19 (0, 2, 0, 0) := ⟨by decide, by decide, by decide, rfl, m_1 (i := 173) rfl⟩
theorem f0_22 : FOk 0 22 (0, 3, 1, 0) := ⟨by decide, by decide, by decide, rfl, m_1 (i := 176) rfl⟩
theorem f0_26 : FOk 0 26 (0, 4, 1, 0) := ⟨by decide, by decide, by decide, rfl, m_1 (i := 179) rfl⟩
theorem f1_38 : FOk 1 38 (5, 9, 0, 0) := ⟨by decide, by decide, by decide, rfl, m_1 (i := 129) rfl⟩
theorem f1_47 : FOk 1 47 (0, 1, 0, 0) := ⟨by decide, by decide, by decide, rfl, m_1 (i := 171) rfl⟩
theorem f1_15 : FOk 1 15 (1, 0, 3, 3) := ⟨by decide, by decide, by decide, rfl, m_2 (i := 68) rfl⟩
theorem f1_19 : FOk 1 19 (1, 1, 3, 5) := ⟨by decide, by decide, by decide, rfl, m_2 (i := 69) rfl⟩
theorem f1_23 : FOk 1 23 (1, 2, 3, 0) := ⟨by decide, by decide, by decide, rfl, m_2 (i := 70) rfl⟩
theorem f1_9 : FOk 1 9 (1, 3, 3, 20) := ⟨by decide, by decide, by decide, rfl, m_2 (i := 71) rfl⟩
theorem f1_31 : FOk 1 31 (1, 4, 0, 0) := ⟨by decide, by decide, by decide, rfl, m_2 (i := 72) rfl⟩
theorem f1_35 : FOk 1 35 (1, 5, 0, 0) := ⟨by decide, by decide, by decide, rfl, m_2 (i := 73) rfl⟩
theorem f1_27 : FOk 1 27 (1, 6, 4, 6) := ⟨by decide, by decide, by decide, rfl, m_2 (i := 74) rfl⟩
theorem f2_11 : FOk 2 11 (2, 0, 3, 20) := ⟨by decide, by decide, by decide, rfl, m_1 (i := 29) rfl⟩
theorem f2_15 : FOk 2 15 (2, 1, 3, 20) := ⟨by decide, by decide, by decide, rfl, m_1 (i := 30) rfl⟩
theorem f2_18 : FOk 2 18 (2, 2, 3, 20) := ⟨by decide, by decide, by decide, rfl, m_1 (i := 31) rfl⟩
theorem f2_21 : FOk 2 21 (2, 3, 3, 22) := ⟨by decide, by decide, by decide, rfl, m_1 (i := 33) rfl⟩
theorem f2_25 : FOk 2 25 (2, 4, 0, 0) := ⟨by decide, by decide, by decide, rfl, m_1 (i := 34) rfl⟩
theorem f2_29 : FOk 2 29 (2, 5, 0, 0) := ⟨by decide, by decide, by decide, rfl, m_1 (i := 36) rfl⟩
theorem f2_49 : FOk 2 49 (5, 0, 3, 20) := ⟨by decide, by decide, by decide, rfl, m_1 (i := 85) rfl⟩
theorem f2_40 : FOk 2 40 (5, 1, 3, 20) := ⟨by decide, by decide, by decide, rfl, m_1 (i := 90) rfl⟩
theorem f3_80 : FOk 3 80 (5, 0, 3, 20) := ⟨by decide, by decide, by decide, rfl, m_1 (i := 83) rfl⟩
theorem f3_83 : FOk 3 83 (5, 1, 3, 20) := ⟨by decide, by decide, by decide, rfl, m_1 (i := 88) rfl⟩
theorem f3_160 : FOk 3 160 (5, 2, 3, 20) := ⟨by decide, by decide, by decide, rfl, m_1 (i := 96) rfl⟩
theorem f3_144 : FOk 3 144 (5, 3, 3, 20) := ⟨by decide, by decide, by decide, rfl, m_1 (i := 101) rfl⟩
theorem f3_166 : FOk 3 166 (5, 4, 3, 22) := ⟨by decide, by decide, by decide, rfl, m_1 (i := 106) rfl⟩
theorem f3_89 : FOk 3 89 (5, 5, 3, 21) := ⟨by decide, by decide, by decide, rfl, m_1 (i := 110) rfl⟩
theorem f3_150 : FOk 3 150 (5, 8, 3, 20) := ⟨by decide, by decide, by decide, rfl, m_1 (i := 125) rfl⟩
theorem f3_113 : FOk 3 113 (0, 2, 0, 0) := ⟨by decide, by decide, by decide, rfl, m_1 (i := 174) rfl⟩
theorem f3_116 : FOk 3 116 (0, 3, 1, 0) := ⟨by decide, by decide, by decide, rfl, m_1 (i := 177) rfl⟩
theorem f3_110 : FOk 3 110 (0, 4, 1, 0) := ⟨by decide, by decide, by decide, rfl, m_1 (i := 180) rfl⟩
theorem f3_41 : FOk 3 41 (6, 0, 3, 5) := ⟨by decide, by decide, by decide, rfl, m_1 (i := 194) rfl⟩
theorem f3_26 : FOk 3 26 (3, 0, 3, 2) := ⟨by decide, by decide, by decide, rfl, m_2 (i := 31) rfl⟩
theorem f3_30 : FOk 3 30 (3, 1, 3, 5) := ⟨by decide, by decide, by decide, rfl, m_2 (i := 32) rfl⟩
theorem f3_11 : FOk 3 11 (3, 2, 3, 20) := ⟨by decide, by decide, by decide, rfl, m_2 (i := 33) rfl⟩
theorem f3_17 : FOk 3 17 (3, 3, 3, 20) := ⟨by decide, by decide, by decide, rfl, m_2 (i := 34) rfl⟩
theorem f3_20 : FOk 3 20 (3, 4, 3, 20) := ⟨by decide, by decide, by decide, rfl, m_2 (i := 35) rfl⟩
theorem f3_23 : FOk 3 23 (3, 5, 3, 20) := ⟨by decide, by decide, by decide, rfl, m_2 (i := 36) rfl⟩
theorem f3_55 : FOk 3 55 (3, 6, 0, 0) := ⟨by decide, by decide, by decide, rfl, m_2 (i := 37) rfl⟩
theorem f3_34 : FOk 3 34 (3, 7, 4, 5) := ⟨by decide, by decide, by decide, rfl, m_2 (i := 38) rfl⟩
theorem f3_37 : FOk 3 37 (3, 8, 4, 0) := ⟨by decide, by decide, by decide, rfl, m_2 (i := 39) rfl⟩
theorem f3_46 : FOk 3 46 (3, 9, 1, 0) := ⟨by decide, by decide, by decide, rfl, m_2 (i := 40) rfl⟩
theorem f4_66 : FOk 4 66 (5, 0, 3, 20) := ⟨by decide, by decide, by decide, rfl, m_1 (i := 84) rfl⟩
theorem f4_69 : FOk 4 69 (5, 1, 3, 20) := ⟨by decide, by decide, by decide, rfl, m_1 (i := 89) rfl⟩
theorem f4_83 : FOk 4 83 (5, 2, 3, 20) := ⟨by decide, by decide, by decide, rfl, m_1 (i := 95) rfl⟩
theorem f4_79 : FOk 4 79 (5, 4, 3, 22) := ⟨by decide, by decide, by decide, rfl, m_1 (i := 105) rfl⟩
theorem f4_72 : FOk 4 72 (5, 5, 3, 21) := ⟨by decide, by decide, by decide, rfl, m_1 (i := 111) rfl⟩
theorem f4_76 : FOk 4 76 (5, 6, 3, 21) := ⟨by decide, by decide, by decide, rfl, m_1 (i := 116) rfl⟩
theorem f4_101 : FOk 4 101 (5, 8, 3, 20) := ⟨by decide, by decide, by decide, rfl, m_1 (i := 123) rfl⟩
theorem f4_40 : FOk 4 40 (5, 9, 0, 0) := ⟨by decide, by decide, by decide, rfl, m_1 (i := 130) rfl⟩
theorem f4_37 : FOk 4 37 (6, 0, 3, 5) := ⟨by decide, by decide, by decide, rfl, m_1 (i := 195) rfl⟩
theorem f4_86 : FOk 4 86 (6, 1, 3, 20) := ⟨by decide, by decide, by decide, rfl, m_1 (i := 198) rfl⟩
theorem f4_15 : FOk 4 15 (4, 0, 3, 2) := ⟨by decide, by decide, by decide, rfl, m_2 (i := 97) rfl⟩
theorem f4_19 : FOk 4 19 (4, 1, 3, 5) := ⟨by decide, by decide, by decide, rfl, m_2 (i := 98) rfl⟩
theorem f4_23 : FOk 4 23 (4, 2, 3, 24) := ⟨by decide, by decide, by decide, rfl, m_2 (i := 99) rfl⟩
theorem f4_9 : FOk 4 9 (4, 3, 3, 20) := ⟨by decide, by decide, by decide, rfl, m_2 (i := 100) rfl⟩
theorem f4_27 : FOk 4 27 (4, 4, 0, 0) := ⟨by decide, by decide, by decide, rfl, m_2 (i := 101) rfl⟩
theorem f5_15 : FOk 5 15 (5, 0, 3, 20) := ⟨by decide, by decide, by decide, rfl, m_1 (i := 80) rfl⟩
theorem f5_21 : FOk 5 21 (5, 1, 3, 20) := ⟨by decide, by decide, by decide, rfl, m_1 (i := 86) rfl⟩
theorem f5_24 : FOk 5 24 (5, 2, 3, 20) := ⟨by decide, by decide, by decide, rfl, m_1 (i := 93) rfl⟩
theorem f5_27 : FOk 5 27 (5, 3, 3, 20) := ⟨by decide, by decide, by decide, rfl, m_1 (i := 98) rfl⟩
theorem f5_30 : FOk 5 30 (5, 4, 3, 22) := ⟨by decide, by decide, by decide, rfl, m_1 (i := 103) rfl⟩
theorem f5_34 : FOk 5 34 (5, 5, 3, 21) := ⟨by decide, by decide, by decide, rfl, m_1 (i := 108) rfl⟩
theorem f5_38 : FOk 5 38 (5, 6, 3, 21) := ⟨by decide, by decide, by decide, rfl, m_1 (i := 114) rfl⟩
theorem f5_41 : FOk 5 41 (5, 7, 3, 20) := ⟨by decide, by decide, by decide, rfl, m_1 (i := 118) rfl⟩
theorem f5_44 : FOk 5 44 (5, 8, 3, 20) := ⟨by decide, by decide, by decide, rfl, m_1 (i := 121) rfl⟩
theorem f5_47 : FOk 5 47 (5, 9, 0, 0) := ⟨by decide, by decide, by decide, rfl, m_1 (i := 126) rfl⟩
theorem f6_70 : FOk 6 70 (5, 0, 3, 20) := ⟨by decide, by decide, by decide, rfl, m_1 (i := 82) rfl⟩
theorem f6_63 : FOk 6 63 (5, 3, 3, 20) := ⟨by decide, by decide, by decide, rfl, m_1 (i := 99) rfl⟩
theorem f6_31 : FOk 6 31 (5, 9, 0, 0) := ⟨by decide, by decide, by decide, rfl, m_1 (i := 127) rfl⟩
theorem f6_14 : FOk 6 14 (6, 0, 3, 5) := ⟨by decide, by decide, by decide, rfl, m_1 (i := 193) rfl⟩
theorem f6_20 : FOk 6 20 (6, 1, 3, 20) := ⟨by decide, by decide, by decide, rfl, m_1 (i := 197) rfl⟩
theorem f6_27 : FOk 6 27 (6, 2, 3, 0) := ⟨by decide, by decide, by decide, rfl, m_1 (i := 199) rfl⟩
theorem f6_46 : FOk 6 46 (6, 3, 1, 0) := ⟨by decide, by decide, by decide, rfl, m_1 (i := 201) rfl⟩
theorem f6_43 : FOk 6 43 (6, 4, 0, 0) := ⟨by decide, by decide, by decide, rfl, m_1 (i := 203) rfl⟩
theorem f6_50 : FOk 6 50 (6, 5, 0, 0) := ⟨by decide, by decide, by decide, rfl, m_1 (i := 205) rfl⟩
theorem f6_53 : FOk 6 53 (6, 6, 0, 0) := ⟨by decide, by decide, by decide, rfl, m_1 (i := 207) rfl⟩
theorem f6_56 : FOk 6 56 (6, 7, 0, 0) := ⟨by decide, by decide, by decide, rfl, m_1 (i := 209) rfl⟩
theorem f7_103 : FOk 7 103 (2, 2, 3, 20) := ⟨by decide, by decide, by decide, rfl, m_1 (i := 32) rfl⟩
theorem f7_61 : FOk 7 61 (8, 0, 3, 20) := ⟨by decide, by decide, by decide, rfl, m_1 (i := 63) rfl⟩
theorem f7_52 : FOk 7 52 (8, 1, 0, 0) := ⟨by decide, by decide, by decide, rfl, m_1 (i := 66) rfl⟩
theorem f7_100 : FOk 7 100 (5, 1, 3, 20) := ⟨by decide, by decide, by decide, rfl, m_1 (i := 91) rfl⟩
theorem f7_140 : FOk 7 140 (5, 2, 3, 20) := ⟨by decide, by decide, by decide, rfl, m_1 (i := 97) rfl⟩
theorem f7_127 : FOk 7 127 (5, 3, 3, 20) := ⟨by decide, by decide, by decide, rfl, m_1 (i := 102) rfl⟩
theorem f7_143 : FOk 7 143 (5, 4, 3, 22) := ⟨by decide, by decide, by decide, rfl, m_1 (i := 107) rfl⟩
theorem f7_116 : FOk 7 116 (5, 5, 3, 21) := ⟨by decide, by decide, by decide, rfl, m_1 (i := 112) rfl⟩
theorem f7_150 : FOk 7 150 (5, 6, 3, 21) := ⟨by decide, by decide, by decide, rfl, m_1 (i := 117) rfl⟩
theorem f7_40 : FOk 7 40 (5, 9, 0, 0) := ⟨by decide, by decide, by decide, rfl, m_1 (i := 128) rfl⟩
theorem f7_9 : FOk 7 9 (7, 0, 3, 2) := ⟨by decide, by decide, by decide, rfl, m_1 (i := 236) rfl⟩
theorem f7_15 : FOk 7 15 (7, 1, 3, 8) := ⟨by decide, by decide, by decide, rfl, m_1 (i := 237) rfl⟩
theorem f7_19 : FOk 7 19 (7, 2, 3, 5) := ⟨by decide, by decide, by decide, rfl, m_1 (i := 238) rfl⟩
theorem f7_27 : FOk 7 27 (7, 3, 1, 0) := ⟨by decide, by decide, by decide, rfl, m_1 (i := 239) rfl⟩
theorem f7_31 : FOk 7 31 (7, 4, 0, 0) := ⟨by decide, by decide, by decide, rfl, m_2 (i := 0) rfl⟩
theorem f7_34 : FOk 7 34 (7, 5, 0, 0) := ⟨by decide, by decide, by decide, rfl, m_2 (i := 1) rfl⟩
theorem f7_65 : FOk 7 65 (7, 6, 2, 0) := ⟨by decide, by decide, by decide, rfl, m_2 (i := 2) rfl⟩
theorem f7_37 : FOk 7 37 (7, 7, 0, 0) := ⟨by decide, by decide, by decide, rfl, m_2 (i := 3) rfl⟩
theorem f7_23 : FOk 7 23 (7, 8, 0, 0) := ⟨by decide, by decide, by decide, rfl, m_2 (i := 4) rfl⟩
theorem f8_15 : FOk 8 15 (8, 0, 3, 20) := ⟨by decide, by decide, by decide, rfl, m_1 (i := 62) rfl⟩
theorem f8_21 : FOk 8 21 (8, 1, 0, 0) := ⟨by decide, by decide, by decide, rfl, m_1 (i := 65) rfl⟩
theorem f9_162 : FOk 9 162 (2, 4, 0, 0) := ⟨by decide, by decide, by decide, rfl, m_1 (i := 35) rfl⟩
theorem f9_165 : FOk 9 165 (2, 5, 0, 0) := ⟨by decide, by decide, by decide, rfl, m_1 (i := 37) rfl⟩
theorem f9_112 : FOk 9 112 (8, 1, 0, 0) := ⟨by decide, by decide, by decide, rfl, m_1 (i := 67) rfl⟩
theorem f9_197 : FOk 9 197 (5, 1, 3, 20) := ⟨by decide, by decide, by decide, rfl, m_1 (i := 92) rfl⟩
theorem f9_200 : FOk 9 200 (5, 5, 3, 21) := ⟨by decide, by decide, by decide, rfl, m_1 (i := 113) rfl⟩
theorem f9_204 : FOk 9 204 (5, 7, 3, 20) := ⟨by decide, by decide, by decide, rfl, m_1 (i := 120) rfl⟩
theorem f9_156 : FOk 9 156 (5, 8, 3, 20) := ⟨by decide, by decide, by decide, rfl, m_1 (i := 124) rfl⟩
theorem f9_145 : FOk 9 145 (5, 9, 0, 0) := ⟨by decide, by decide, by decide, rfl, m_1 (i := 131) rfl⟩
theorem f9_228 : FOk 9 228 (0, 1, 0, 0) := ⟨by decide, by decide, by decide, rfl, m_1 (i := 172) rfl⟩
theorem f9_233 : FOk 9 233 (0, 2, 0, 0) := ⟨by decide, by decide, by decide, rfl, m_1 (i := 175) rfl⟩
theorem f9_236 : FOk 9 236 (0, 3, 1, 0) := ⟨by decide, by decide, by decide, rfl, m_1 (i := 178) rfl⟩
theorem f9_239 : FOk 9 239 (0, 4, 1, 0) := ⟨by decide, by decide, by decide, rfl, m_1 (i := 181) rfl⟩
theorem f9_179 : FOk 9 179 (6, 0, 3, 5) := ⟨by decide, by decide, by decide, rfl, m_1 (i := 196) rfl⟩
theorem f9_225 : FOk 9 225 (6, 2, 3, 0) := ⟨by decide, by decide, by decide, rfl, m_1 (i := 200) rfl⟩
theorem f9_138 : FOk 9 138 (6, 3, 1, 0) := ⟨by decide, by decide, by decide, rfl, m_1 (i := 202) rfl⟩
theorem f9_176 : FOk 9 176 (6, 4, 0, 0) := ⟨by decide, by decide, by decide, rfl, m_1 (i := 204) rfl⟩
theorem f9_186 : FOk 9 186 (6, 5, 0, 0) := ⟨by decide, by decide, by decide, rfl, m_1 (i := 206) rfl⟩
theorem f9_189 : FOk 9 189 (6, 6, 0, 0) := ⟨by decide, by decide, by decide, rfl, m_1 (i := 208) rfl⟩
theorem f9_192 : FOk 9 192 (6, 7, 0, 0) := ⟨by decide, by decide, by decide, rfl, m_1 (i := 210) rfl⟩
theorem f9_159 : FOk 9 159 (7, 8, 0, 0) := ⟨by decide, by decide, by decide, rfl, m_2 (i := 5) rfl⟩
theorem f9_283 : FOk 9 283 (1, 6, 4, 6) := ⟨by decide, by decide, by decide, rfl, m_2 (i := 75) rfl⟩
theorem f9_257 : FOk 9 257 (4, 4, 0, 0) := ⟨by decide, by decide, by decide, rfl, m_2 (i := 102) rfl⟩
theorem f9_10 : FOk 9 10 (9, 0, 3, 2) := ⟨by decide, by decide, by decide, rfl, m_2 (i := 114) rfl⟩
theorem f9_21 : FOk 9 21 (9, 1, 3, 8) := ⟨by decide, by decide, by decide, rfl, m_2 (i := 115) rfl⟩
theorem f9_25 : FOk 9 25 (9, 2, 3, 8) := ⟨by decide, by decide, by decide, rfl, m_2 (i := 116) rfl⟩
theorem f9_31 : FOk 9 31 (9, 3, 3, 5) := ⟨by decide, by decide, by decide, rfl, m_2 (i := 117) rfl⟩
theorem f9_35 : FOk 9 35 (9, 4, 3, 5) := ⟨by decide, by decide, by decide, rfl, m_2 (i := 118) rfl⟩
theorem f9_40 : FOk 9 40 (9, 5, 3, 24) := ⟨by decide, by decide, by decide, rfl, m_2 (i := 119) rfl⟩
theorem f9_57 : FOk 9 57 (9, 6, 3, 7) := ⟨by decide, by decide, by decide, rfl, m_2 (i := 120) rfl⟩
theorem f9_66 : FOk 9 66 (9, 7, 3, 3) := ⟨by decide, by decide, by decide, rfl, m_2 (i := 121) rfl⟩
theorem f9_84 : FOk 9 84 (9, 8, 3, 4) := ⟨by decide, by decide, by decide, rfl, m_2 (i := 122) rfl⟩
theorem f9_75 : FOk 9 75 (9, 9, 3, 1) := ⟨by decide, by decide, by decide, rfl, m_2 (i := 123) rfl⟩
theorem f9_48 : FOk 9 48 (9, 10, 3, 0) := ⟨by decide, by decide, by decide, rfl, m_2 (i := 124) rfl⟩
theorem f9_88 : FOk 9 88 (9, 11, 3, 20) := ⟨by decide, by decide, by decide, rfl, m_2 (i := 125) rfl⟩
theorem f9_222 : FOk 9 222 (9, 12, 0, 0) := ⟨by decide, by decide, by decide, rfl, m_2 (i := 126) rfl⟩
theorem f9_216 : FOk 9 216 (9, 13, 1, 0) := ⟨by decide, by decide, by decide, rfl, m_2 (i := 127) rfl⟩
theorem f10_7 : FOk 10 7 (10, 0, 0, 0) := ⟨by decide, by decide, by decide, rfl, m_4 (i := 189) rfl⟩
theorem f10_13 : FOk 10 13 (10, 1, 3, 20) := ⟨by decide, by decide, by decide, rfl, m_4 (i := 190) rfl⟩
theorem f10_196 : FOk 10 196 (10, 2, 0, 0) := ⟨by decide, by decide, by decide, rfl, m_4 (i := 191) rfl⟩
theorem f10_17 : FOk 10 17 (10, 3, 3, 20) := ⟨by decide, by decide, by decide, rfl, m_4 (i := 192) rfl⟩
theorem f10_20 : FOk 10 20 (10, 4, 3, 20) := ⟨by decide, by decide, by decide, rfl, m_4 (i := 193) rfl⟩
theorem f10_23 : FOk 10 23 (10, 5, 3, 22) := ⟨by decide, by decide, by decide, rfl, m_4 (i := 194) rfl⟩
theorem f10_27 : FOk 10 27 (10, 6, 3, 23) := ⟨by decide, by decide, by decide, rfl, m_4 (i := 195) rfl⟩
theorem f10_199 : FOk 10 199 (10, 7, 0, 0) := ⟨by decide, by decide, by decide, rfl, m_4 (i := 196) rfl⟩
theorem f10_31 : FOk 10 31 (10, 8, 3, 20) := ⟨by decide, by decide, by decide, rfl, m_4 (i := 197) rfl⟩
theorem f10_34 : FOk 10 34 (10, 9, 3, 20) := ⟨by decide, by decide, by decide, rfl, m_4 (i := 198) rfl⟩
theorem f10_37 : FOk 10 37 (10, 10, 3, 21) := ⟨by decide, by decide, by decide, rfl, m_4 (i := 199) rfl⟩
theorem f10_41 : FOk 10 41 (10, 11, 3, 20) := ⟨by decide, by decide, by decide, rfl, m_4 (i := 200) rfl⟩
theorem f10_44 : FOk 10 44 (10, 12, 3, 20) := ⟨by decide, by decide, by decide, rfl, m_4 (i := 201) rfl⟩
theorem f10_47 : FOk 10 47 (10, 13, 3, 22) := ⟨by decide, by decide, by decide, rfl, m_4 (i := 202) rfl⟩
theorem f10_50 : FOk 10 50 (10, 14, 3, 21) := ⟨by decide, by decide, by decide, rfl, m_4 (i := 203) rfl⟩
theorem f10_53 : FOk 10 53 (10, 15, 3, 21) := ⟨by decide, by decide, by decide, rfl, m_4 (i := 204) rfl⟩
theorem f10_56 : FOk 10 56 (10, 16, 3, 20) := ⟨by decide, by decide, by decide, rfl, m_4 (i := 205) rfl⟩
theorem f10_236 : FOk 10 236 (10, 17, 0, 0) := ⟨by decide, by decide, by decide, rfl, m_4 (i := 206) rfl⟩
theorem f10_239 : FOk 10 239 (10, 18, 0, 0) := ⟨by decide, by decide, by decide, rfl, m_4 (i := 207) rfl⟩
theorem f10_276 : FOk 10 276 (10, 19, 1, 0) := ⟨by decide, by decide, by decide, rfl, m_4 (i := 208) rfl⟩
theorem f10_212 : FOk 10 212 (10, 20, 0, 0) := ⟨by decide, by decide, by decide, rfl, m_4 (i := 209) rfl⟩
theorem f10_206 : FOk 10 206 (10, 21, 0, 0) := ⟨by decide, by decide, by decide, rfl, m_4 (i := 210) rfl⟩
theorem f10_209 : FOk 10 209 (10, 22, 0, 0) := ⟨by decide, by decide, by decide, rfl, m_4 (i := 211) rfl⟩
theorem f10_59 : FOk 10 59 (10, 23, 0, 0) := ⟨by decide, by decide, by decide, rfl, m_4 (i := 212) rfl⟩
theorem f10_250 : FOk 10 250 (10, 24, 0, 0) := ⟨by decide, by decide, by decide, rfl, m_4 (i := 213) rfl⟩
theorem f10_62 : FOk 10 62 (10, 25, 3, 20) := ⟨by decide, by decide, by decide, rfl, m_4 (i := 214) rfl⟩
theorem f10_65 : FOk 10 65 (10, 26, 3, 20) := ⟨by decide, by decide, by decide, rfl, m_4 (i := 215) rfl⟩
theorem f10_253 : FOk 10 253 (10, 27, 0, 0) := ⟨by decide, by decide, by decide, rfl, m_4 (i := 216) rfl⟩
theorem f10_294 : FOk 10 294 (10, 28, 1, 0) := ⟨by decide, by decide, by decide, rfl, m_4 (i := 217) rfl⟩
theorem f10_68 : FOk 10 68 (10, 29, 3, 22) := ⟨by decide, by decide, by decide, rfl, m_4 (i := 218) rfl⟩
theorem f10_71 : FOk 10 71 (10, 30, 3, 20) := ⟨by decide, by decide, by decide, rfl, m_4 (i := 219) rfl⟩
theorem f10_74 : FOk 10 74 (10, 31, 3, 20) := ⟨by decide, by decide, by decide, rfl, m_4 (i := 220) rfl⟩
theorem f10_77 : FOk 10 77 (10, 32, 3, 20) := ⟨by decide, by decide, by decide, rfl, m_4 (i := 221) rfl⟩
theorem f10_80 : FOk 10 80 (10, 33, 3, 20) := ⟨by decide, by decide, by decide, rfl, m_4 (i := 222) rfl⟩
theorem f10_83 : FOk 10 83 (10, 34, 3, 21) := ⟨by decide, by decide, by decide, rfl, m_4 (i := 223) rfl⟩
theorem f10_86 : FOk 10 86 (10, 35, 3, 20) := ⟨by decide, by decide, by decide, rfl, m_4 (i := 224) rfl⟩
theorem f10_89 : FOk 10 89 (10, 36, 3, 20) := ⟨by decide, by decide, by decide, rfl, m_4 (i := 225) rfl⟩
theorem f10_92 : FOk 10 92 (10, 37, 3, 22) := ⟨by decide, by decide, by decide, rfl, m_4 (i := 226) rfl⟩
theorem f10_95 : FOk 10 95 (10, 38, 3, 21) := ⟨by decide, by decide, by decide, rfl, m_4 (i := 227) rfl⟩
theorem f10_98 : FOk 10 98 (10, 39, 3, 21) := ⟨by decide, by decide, by decide, rfl, m_4 (i := 228) rfl⟩
theorem f10_101 : FOk 10 101 (10, 40, 3, 20) := ⟨by decide, by decide, by decide, rfl, m_4 (i := 229) rfl⟩
theorem f10_302 : FOk 10 302 (10, 41, 0, 0) := ⟨by decide, by decide, by decide, rfl, m_4 (i := 230) rfl⟩
theorem f10_317 : FOk 10 317 (10, 42, 0, 0) := ⟨by decide, by decide, by decide, rfl, m_4 (i := 231) rfl⟩
theorem f10_104 : FOk 10 104 (10, 43, 3, 20) := ⟨by decide, by decide, by decide, rfl, m_4 (i := 232) rfl⟩
theorem f10_107 : FOk 10 107 (10, 44, 3, 21) := ⟨by decide, by decide, by decide, rfl, m_4 (i := 233) rfl⟩
theorem f10_110 : FOk 10 110 (10, 45, 3, 20) := ⟨by decide, by decide, by decide, rfl, m_4 (i := 234) rfl⟩
theorem f10_113 : FOk 10 113 (10, 46, 3, 20) := ⟨by decide, by decide, by decide, rfl, m_4 (i := 235) rfl⟩
theorem f10_309 : FOk 10 309 (10, 47, 1, 0) := ⟨by decide, by decide, by decide, rfl, m_4 (i := 236) rfl⟩
theorem f10_116 : FOk 10 116 (10, 48, 3, 20) := ⟨by decide, by decide, by decide, rfl, m_4 (i := 237) rfl⟩
theorem f10_119 : FOk 10 119 (10, 49, 3, 20) := ⟨by decide, by decide, by decide, rfl, m_4 (i := 238) rfl⟩
theorem f10_122 : FOk 10 122 (10, 50, 3, 20) := ⟨by decide, by decide, by decide, rfl, m_4 (i := 239) rfl⟩
theorem f10_356 : FOk 10 356 (10, 51, 0, 0) := ⟨by decide, by decide, by decide, rfl, m_5 (i := 0) rfl⟩
theorem f10_125 : FOk 10 125 (10, 52, 3, 20) := ⟨by decide, by decide, by decide, rfl, m_5 (i := 1) rfl⟩
theorem f10_128 : FOk 10 128 (10, 53, 3, 20) := ⟨by decide, by decide, by decide, rfl, m_5 (i := 2) rfl⟩
theorem f10_131 : FOk 10 131 (10, 54, 3, 20) := ⟨by decide, by decide, by decide, rfl, m_5 (i := 3) rfl⟩
theorem f10_134 : FOk 10 134 (10, 55, 3, 20) := ⟨by decide, by decide, by decide, rfl, m_5 (i := 4) rfl⟩
theorem f10_137 : FOk 10 137 (10, 56, 3, 20) := ⟨by decide, by decide, by decide, rfl, m_5 (i := 5) rfl⟩
theorem f10_140 : FOk 10 140 (10, 57, 3, 20) := ⟨by decide, by decide, by decide, rfl, m_5 (i := 6) rfl⟩
theorem f10_143 : FOk 10 143 (10, 58, 3, 20) := ⟨by decide, by decide, by decide, rfl, m_5 (i := 7) rfl⟩
theorem f10_146 : FOk 10 146 (10, 59, 3, 20) := ⟨by decide, by decide, by decide, rfl, m_5 (i := 8) rfl⟩
theorem f10_359 : FOk 10 359 (10, 60, 0, 0) := ⟨by decide, by decide, by decide, rfl, m_5 (i := 9) rfl⟩
theorem f10_379 : FOk 10 379 (10, 61, 0, 0) := ⟨by decide, by decide, by decide, rfl, m_5 (i := 10) rfl⟩
theorem f10_382 : FOk 10 382 (10, 62, 1, 0) := ⟨by decide, by decide, by decide, rfl, m_5 (i := 11) rfl⟩
theorem f10_402 : FOk 10 402 (10, 63, 1, 0) := ⟨by decide, by decide, by decide, rfl, m_5 (i := 12) rfl⟩
theorem f10_399 : FOk 10 399 (10, 64, 0, 0) := ⟨by decide, by decide, by decide, rfl, m_5 (i := 13) rfl⟩
theorem f10_149 : FOk 10 149 (10, 65, 3, 20) := ⟨by decide, by decide, by decide, rfl, m_5 (i := 14) rfl⟩
theorem f10_376 : FOk 10 376 (10, 66, 0, 0) := ⟨by decide, by decide, by decide, rfl, m_5 (i := 15) rfl⟩
theorem f10_152 : FOk 10 152 (10, 67, 3, 20) := ⟨by decide, by decide, by decide, rfl, m_5 (i := 16) rfl⟩
theorem f10_155 : FOk 10 155 (10, 68, 3, 20) := ⟨by decide, by decide, by decide, rfl, m_5 (i := 17) rfl⟩
theorem f10_158 : FOk 10 158 (10, 69, 3, 20) := ⟨by decide, by decide, by decide, rfl, m_5 (i := 18) rfl⟩
theorem f10_161 : FOk 10 161 (10, 70, 3, 22) := ⟨by decide, by decide, by decide, rfl, m_5 (i := 19) rfl⟩
theorem f10_164 : FOk 10 164 (10, 71, 3, 22) := ⟨by decide, by decide, by decide, rfl, m_5 (i := 20) rfl⟩
theorem f10_167 : FOk 10 167 (10, 72, 3, 20) := ⟨by decide, by decide, by decide, rfl, m_5 (i := 21) rfl⟩
theorem f10_437 : FOk 10 437 (10, 73, 0, 0) := ⟨by decide, by decide, by decide, rfl, m_5 (i := 22) rfl⟩
theorem f10_170 : FOk 10 170 (10, 74, 3, 20) := ⟨by decide, by decide, by decide, rfl, m_5 (i := 23) rfl⟩
theorem f10_173 : FOk 10 173 (10, 75, 3, 23) := ⟨by decide, by decide, by decide, rfl, m_5 (i := 24) rfl⟩
theorem f10_336 : FOk 10 336 (10, 76, 0, 0) := ⟨by decide, by decide, by decide, rfl, m_5 (i := 25) rfl⟩
theorem f10_176 : FOk 10 176 (10, 77, 3, 20) := ⟨by decide, by decide, by decide, rfl, m_5 (i := 26) rfl⟩
theorem f10_179 : FOk 10 179 (10, 78, 3, 20) := ⟨by decide, by decide, by decide, rfl, m_5 (i := 27) rfl⟩
theorem f10_462 : FOk 10 462 (10, 79, 0, 0) := ⟨by decide, by decide, by decide, rfl, m_5 (i := 28) rfl⟩
theorem f11_9 : FOk 11 9 (8, 1, 0, 0) := ⟨by decide, by decide, by decide, rfl, m_1 (i := 64) rfl⟩
theorem f11_35 : FOk 11 35 (5, 0, 3, 20) := ⟨by decide, by decide, by decide, rfl, m_1 (i := 81) rfl⟩
theorem f11_42 : FOk 11 42 (5, 1, 3, 20) := ⟨by decide, by decide, by decide, rfl, m_1 (i := 87) rfl⟩
theorem f11_59 : FOk 11 59 (5, 2, 3, 20) := ⟨by decide, by decide, by decide, rfl, m_1 (i := 94) rfl⟩
theorem f11_56 : FOk 11 56 (5, 3, 3, 20) := ⟨by decide, by decide, by decide, rfl, m_1 (i := 100) rfl⟩
theorem f11_62 : FOk 11 62 (5, 4, 3, 22) := ⟨by decide, by decide, by decide, rfl, m_1 (i := 104) rfl⟩
theorem f11_45 : FOk 11 45 (5, 5, 3, 21) := ⟨by decide, by decide, by decide, rfl, m_1 (i := 109) rfl⟩
theorem f11_66 : FOk 11 66 (5, 6, 3, 21) := ⟨by decide, by decide, by decide, rfl, m_1 (i := 115) rfl⟩
theorem f11_69 : FOk 11 69 (5, 7, 3, 20) := ⟨by decide, by decide, by decide, rfl, m_1 (i := 119) rfl⟩
theorem f11_21 : FOk 11 21 (5, 8, 3, 20) := ⟨by decide, by decide, by decide, rfl, m_1 (i := 122) rfl⟩
theorem q0_33 : MOk 0 33 (0, 2, 1, 0, i0_holds) := (⟨m_3 (i := 218) rfl, m_3 (i := 219) rfl, m_3 (i := 220) rfl, rfl, by decide, b0_holds⟩ : MO0 0 33 1 1 0 i0_holds)
theorem q0_29 : MOk 0 29 (0, 3, 1, 0, i0_nodeOf) := (⟨m_3 (i := 222) rfl, m_3 (i := 223) rfl, m_3 (i := 224) rfl, rfl, by decide, b0_nodeOf⟩ : MO0 0 29 2 1 0 i0_nodeOf)
theorem q1_41 : MOk 1 41 (0, 5, 0, 3, i3_run) := (⟨m_4 (i := 79) rfl, m_3 (i := 195) rfl, m_3 (i := 196) rfl, rfl, by decide, b3_run⟩ : MO0 1 41 4 0 3 i3_run)
theorem q2_32 : MOk 2 32 (0, 2, 1, 2, i2_hasKind) := (⟨m_2 (i := 177) rfl, m_2 (i := 162) rfl, m_2 (i := 163) rfl, rfl, by decide, b2_hasKind⟩ : MO0 2 32 1 1 2 i2_hasKind)
theorem q2_45 : MOk 2 45 (0, 2, 1, 2, i2_hasHead) := (⟨m_3 (i := 75) rfl, m_2 (i := 238) rfl, m_2 (i := 239) rfl, rfl, by decide, b2_hasHead⟩ : MO0 2 45 1 1 2 i2_hasHead)
theorem q2_36 : MOk 2 36 (0, 3, 1, 2, i2_isBelow) := (⟨m_4 (i := 134) rfl, m_2 (i := 174) rfl, m_2 (i := 175) rfl, rfl, by decide, b2_isBelow⟩ : MO0 2 36 2 1 2 i2_isBelow)
theorem q3_50 : MOk 3 50 (0, 1, 0, 0, i0_clear) := (⟨m_3 (i := 198) rfl, m_3 (i := 199) rfl, m_3 (i := 200) rfl, rfl, by decide, b0_clear⟩ : MO0 3 50 0 0 0 i0_clear)
theorem q3_59 : MOk 3 59 (0, 4, 1, 3, i3_chain) := (⟨m_3 (i := 202) rfl, m_3 (i := 204) rfl, m_0 (i := 27) rfl, rfl, by decide, b3_chain⟩ : MO0 3 59 3 1 3 i3_chain)
theorem q3_63 : MOk 3 63 (0, 3, 1, 3, i3_walk) := (⟨m_3 (i := 206) rfl, m_3 (i := 208) rfl, m_0 (i := 28) rfl, rfl, by decide, b3_walk⟩ : MO0 3 63 2 1 3 i3_walk)
theorem q3_67 : MOk 3 67 (0, 1, 1, 3, i3_keepFilling) := (⟨m_3 (i := 210) rfl, m_3 (i := 212) rfl, m_0 (i := 29) rfl, rfl, by decide, b3_keepFilling⟩ : MO0 3 67 0 1 3 i3_keepFilling)
theorem q3_106 : MOk 3 106 (0, 2, 0, 0, i0_keep) := (⟨m_3 (i := 214) rfl, m_3 (i := 215) rfl, m_3 (i := 216) rfl, rfl, by decide, b0_keep⟩ : MO0 3 106 1 0 0 i0_keep)
theorem q3_71 : MOk 3 71 (0, 1, 1, 3, i3_mayTry) := (⟨m_3 (i := 229) rfl, m_3 (i := 231) rfl, m_0 (i := 30) rfl, rfl, by decide, b3_mayTry⟩ : MO0 3 71 0 1 3 i3_mayTry)
theorem q3_74 : MOk 3 74 (0, 2, 1, 5, i5_has) := (⟨m_3 (i := 233) rfl, m_3 (i := 119) rfl, m_3 (i := 120) rfl, rfl, by decide, b5_has⟩ : MO0 3 74 1 1 5 i5_has)
theorem q3_86 : MOk 3 86 (0, 3, 1, 3, i3_walkParts) := (⟨m_3 (i := 234) rfl, m_3 (i := 236) rfl, m_0 (i := 31) rfl, rfl, by decide, b3_walkParts⟩ : MO0 3 86 2 1 3 i3_walkParts)
theorem q3_119 : MOk 3 119 (0, 3, 1, 2, i2_partsOfNode) := (⟨m_3 (i := 238) rfl, m_3 (i := 72) rfl, m_3 (i := 73) rfl, rfl, by decide, b2_partsOfNode⟩ : MO0 3 119 2 1 2 i2_partsOfNode)
theorem q3_123 : MOk 3 123 (0, 3, 1, 2, i2_isLooseNode) := (⟨m_3 (i := 239) rfl, m_3 (i := 85) rfl, m_3 (i := 86) rfl, rfl, by decide, b2_isLooseNode⟩ : MO0 3 123 2 1 2 i2_isLooseNode)
theorem q3_130 : MOk 3 130 (0, 4, 1, 3, i3_chainParts) := (⟨m_4 (i := 2) rfl, m_4 (i := 4) rfl, m_0 (i := 32) rfl, rfl, by decide, b3_chainParts⟩ : MO0 3 130 3 1 3 i3_chainParts)
theorem q3_136 : MOk 3 136 (0, 3, 1, 5, i5_partOf) := (⟨m_4 (i := 8) rfl, m_4 (i := 9) rfl, m_4 (i := 10) rfl, rfl, by decide, b5_partOf⟩ : MO0 3 136 2 1 5 i5_partOf)
theorem q3_93 : MOk 3 93 (0, 3, 1, 3, i3_isNumber) := (⟨m_4 (i := 12) rfl, m_4 (i := 14) rfl, m_0 (i := 33) rfl, rfl, by decide, b3_isNumber⟩ : MO0 3 93 2 1 3 i3_isNumber)
theorem q3_97 : MOk 3 97 (0, 3, 1, 3, i3_walkHole) := (⟨m_4 (i := 16) rfl, m_4 (i := 18) rfl, m_0 (i := 34) rfl, rfl, by decide, b3_walkHole⟩ : MO0 3 97 2 1 3 i3_walkHole)
theorem q3_140 : MOk 3 140 (1, 5, 1, 0, i3_fitsHole) := (⟨m_4 (i := 20) rfl, m_4 (i := 21) rfl, b3_fitsHole⟩ : MO1 3 140 5 1 i3_fitsHole)
theorem q3_157 : MOk 3 157 (0, 3, 1, 2, i2_kindOfNode) := (⟨m_4 (i := 23) rfl, m_3 (i := 173) rfl, m_3 (i := 174) rfl, rfl, by decide, b2_kindOfNode⟩ : MO0 3 157 2 1 2 i2_kindOfNode)
theorem q3_163 : MOk 3 163 (0, 3, 1, 2, i2_isBelow) := (⟨m_4 (i := 24) rfl, m_2 (i := 174) rfl, m_2 (i := 175) rfl, rfl, by decide, b2_isBelow⟩ : MO0 3 163 2 1 2 i2_isBelow)
theorem q3_170 : MOk 3 170 (0, 3, 1, 5, i5_spanHolds) := (⟨m_4 (i := 25) rfl, m_4 (i := 26) rfl, m_4 (i := 27) rfl, rfl, by decide, b5_spanHolds⟩ : MO0 3 170 2 1 5 i5_spanHolds)
theorem q3_147 : MOk 3 147 (0, 3, 1, 5, i5_areAlike) := (⟨m_4 (i := 29) rfl, m_3 (i := 182) rfl, m_3 (i := 183) rfl, rfl, by decide, b5_areAlike⟩ : MO0 3 147 2 1 5 i5_areAlike)
theorem q3_100 : MOk 3 100 (0, 3, 1, 3, i3_walkBelow) := (⟨m_4 (i := 30) rfl, m_4 (i := 32) rfl, m_0 (i := 35) rfl, rfl, by decide, b3_walkBelow⟩ : MO0 3 100 2 1 3 i3_walkBelow)
theorem q3_153 : MOk 3 153 (0, 5, 1, 3, i3_walkFrom) := (⟨m_4 (i := 34) rfl, m_4 (i := 36) rfl, m_0 (i := 36) rfl, rfl, by decide, b3_walkFrom⟩ : MO0 3 153 4 1 3 i3_walkFrom)
theorem q3_103 : MOk 3 103 (0, 3, 1, 3, i3_walkNowhere) := (⟨m_4 (i := 38) rfl, m_4 (i := 40) rfl, m_0 (i := 37) rfl, rfl, by decide, b3_walkNowhere⟩ : MO0 3 103 2 1 3 i3_walkNowhere)
theorem q4_31 : MOk 4 31 (0, 1, 1, 6, i6_isInNet) := (⟨m_3 (i := 134) rfl, m_3 (i := 135) rfl, m_3 (i := 136) rfl, rfl, by decide, b6_isInNet⟩ : MO0 4 31 0 1 6 i6_isInNet)
theorem q4_45 : MOk 4 45 (0, 2, 1, 4, i4_stepsOfOthers) := (⟨m_3 (i := 142) rfl, m_3 (i := 144) rfl, m_0 (i := 24) rfl, rfl, by decide, b4_stepsOfOthers⟩ : MO0 4 45 1 1 4 i4_stepsOfOthers)
theorem q4_49 : MOk 4 49 (0, 3, 1, 4, i4_likeMarks) := (⟨m_3 (i := 146) rfl, m_3 (i := 147) rfl, m_3 (i := 148) rfl, rfl, by decide, b4_likeMarks⟩ : MO0 4 49 2 1 4 i4_likeMarks)
theorem q4_59 : MOk 4 59 (5, 2, 1, 0, i12_) := (m_3 (i := 150) rfl : Cond.methodLink (cnm 4) 59 Lib.Math.min.name ∈ lw_tbl)
theorem q4_62 : MOk 4 62 (0, 4, 1, 4, i4_isLikeMark) := (⟨m_3 (i := 153) rfl, m_3 (i := 155) rfl, m_0 (i := 25) rfl, rfl, by decide, b4_isLikeMark⟩ : MO0 4 62 3 1 4 i4_isLikeMark)
theorem q4_53 : MOk 4 53 (4, 2, 1, 0, i12_) := (m_3 (i := 157) rfl : Cond.methodLink (cnm 4) 53 Lib.Math.max.name ∈ lw_tbl)
theorem q4_89 : MOk 4 89 (0, 2, 1, 4, i4_marksThatGo) := (⟨m_4 (i := 88) rfl, m_4 (i := 89) rfl, m_4 (i := 90) rfl, rfl, by decide, b4_marksThatGo⟩ : MO0 4 89 1 1 4 i4_marksThatGo)
theorem q4_93 : MOk 4 93 (0, 2, 1, 5, i5_has) := (⟨m_4 (i := 92) rfl, m_3 (i := 119) rfl, m_3 (i := 120) rfl, rfl, by decide, b5_has⟩ : MO0 4 93 1 1 5 i5_has)
theorem q4_97 : MOk 4 97 (0, 4, 1, 4, i4_goes) := (⟨m_4 (i := 93) rfl, m_4 (i := 95) rfl, m_0 (i := 39) rfl, rfl, by decide, b4_goes⟩ : MO0 4 97 3 1 4 i4_goes)
theorem q4_104 : MOk 4 104 (1, 5, 1, 0, i3_fitsHole) := (⟨m_4 (i := 97) rfl, m_4 (i := 21) rfl, b3_fitsHole⟩ : MO1 4 104 5 1 i3_fitsHole)
theorem q4_110 : MOk 4 110 (0, 3, 1, 5, i5_areAlike) := (⟨m_4 (i := 98) rfl, m_3 (i := 182) rfl, m_3 (i := 183) rfl, rfl, by decide, b5_areAlike⟩ : MO0 4 110 2 1 5 i5_areAlike)
theorem q4_114 : MOk 4 114 (0, 5, 1, 4, i4_agree) := (⟨m_4 (i := 121) rfl, m_4 (i := 123) rfl, m_0 (i := 40) rfl, rfl, by decide, b4_agree⟩ : MO0 4 114 4 1 4 i4_agree)
theorem q4_118 : MOk 4 118 (0, 5, 1, 4, i4_holesAgree) := (⟨m_4 (i := 125) rfl, m_4 (i := 127) rfl, m_0 (i := 41) rfl, rfl, by decide, b4_holesAgree⟩ : MO0 4 118 4 1 4 i4_holesAgree)
theorem q4_124 : MOk 4 124 (0, 3, 1, 2, i2_isBelow) := (⟨m_4 (i := 129) rfl, m_2 (i := 174) rfl, m_2 (i := 175) rfl, rfl, by decide, b2_isBelow⟩ : MO0 4 124 2 1 2 i2_isBelow)
theorem q4_129 : MOk 4 129 (0, 2, 1, 2, i2_someHeadBelow) := (⟨m_4 (i := 130) rfl, m_4 (i := 131) rfl, m_4 (i := 132) rfl, rfl, by decide, b2_someHeadBelow⟩ : MO0 4 129 1 1 2 i2_someHeadBelow)
theorem q4_132 : MOk 4 132 (6, 2, 2, 0, i12_) := (m_4 (i := 135) rfl : Cond.methodLink (cnm 4) 132 Lib.MathLoose.max_long.x ∈ lw_tbl)
theorem q4_135 : MOk 4 135 (0, 3, 1, 5, i5_spanHolds) := (⟨m_4 (i := 138) rfl, m_4 (i := 26) rfl, m_4 (i := 27) rfl, rfl, by decide, b5_spanHolds⟩ : MO0 4 135 2 1 5 i5_spanHolds)
theorem q4_121 : MOk 4 121 (0, 5, 1, 4, i4_holeTakes) := (⟨m_4 (i := 139) rfl, m_4 (i := 141) rfl, m_0 (i := 42) rfl, rfl, by decide, b4_holeTakes⟩ : MO0 4 121 4 1 4 i4_holeTakes)
theorem q5_9 : MOk 5 9 (4, 2, 1, 0, i12_) := (m_1 (i := 79) rfl : Cond.methodLink (cnm 5) 9 Lib.Math.max.name ∈ lw_tbl)
theorem q5_51 : MOk 5 51 (0, 4, 0, 5, i5_put) := (⟨m_3 (i := 63) rfl, m_3 (i := 65) rfl, m_0 (i := 17) rfl, rfl, by decide, b5_put⟩ : MO0 5 51 3 0 5 i5_put)
theorem q5_55 : MOk 5 55 (0, 3, 1, 2, i2_partsOfNode) := (⟨m_3 (i := 71) rfl, m_3 (i := 72) rfl, m_3 (i := 73) rfl, rfl, by decide, b2_partsOfNode⟩ : MO0 5 55 2 1 2 i2_partsOfNode)
theorem q5_61 : MOk 5 61 (0, 2, 1, 5, i5_has) := (⟨m_3 (i := 185) rfl, m_3 (i := 119) rfl, m_3 (i := 120) rfl, rfl, by decide, b5_has⟩ : MO0 5 61 1 1 5 i5_has)
theorem q6_11 : MOk 6 11 (2, 2, 0, 5, i5_init) := (⟨m_1 (i := 162) rfl, m_1 (i := 76) rfl, rfl, by decide, rfl, b5_init⟩ : MO2 6 11 1 0 5 i5_init)
theorem q6_26 : MOk 6 26 (3, 1, 0, 0, i0_init) := (⟨by unfold NW; simp, m_1 (i := 166) rfl, rfl, by decide, rfl, b0_init⟩ : MO3 6 26 0 0 0 i0_init)
theorem q6_35 : MOk 6 35 (0, 4, 0, 5, i5_replace) := (⟨m_3 (i := 59) rfl, m_3 (i := 60) rfl, m_3 (i := 61) rfl, rfl, by decide, b5_replace⟩ : MO0 6 35 3 0 5 i5_replace)
theorem q6_39 : MOk 6 39 (0, 2, 0, 5, i5_link) := (⟨m_3 (i := 67) rfl, m_3 (i := 68) rfl, m_3 (i := 69) rfl, rfl, by decide, b5_link⟩ : MO0 6 39 1 0 5 i5_link)
theorem q6_59 : MOk 6 59 (0, 2, 1, 6, i6_holesAheadOfFirst) := (⟨m_3 (i := 76) rfl, m_3 (i := 78) rfl, m_0 (i := 18) rfl, rfl, by decide, b6_holesAheadOfFirst⟩ : MO0 6 59 1 1 6 i6_holesAheadOfFirst)
theorem q6_66 : MOk 6 66 (0, 3, 1, 6, i6_isWild) := (⟨m_3 (i := 80) rfl, m_3 (i := 82) rfl, m_0 (i := 19) rfl, rfl, by decide, b6_isWild⟩ : MO0 6 66 2 1 6 i6_isWild)
theorem q6_73 : MOk 6 73 (0, 3, 1, 2, i2_isLooseNode) := (⟨m_3 (i := 84) rfl, m_3 (i := 85) rfl, m_3 (i := 86) rfl, rfl, by decide, b2_isLooseNode⟩ : MO0 6 73 2 1 2 i2_isLooseNode)
theorem q7_45 : MOk 7 45 (0, 2, 1, 7, i7_readNode) := (⟨m_2 (i := 217) rfl, m_2 (i := 219) rfl, m_0 (i := 1) rfl, rfl, by decide, b7_readNode⟩ : MO0 7 45 1 1 7 i7_readNode)
theorem q7_49 : MOk 7 49 (0, 1, 0, 7, i7_skipBlanks) := (⟨m_2 (i := 221) rfl, m_2 (i := 223) rfl, m_0 (i := 2) rfl, rfl, by decide, b7_skipBlanks⟩ : MO0 7 49 0 0 7 i7_skipBlanks)
theorem q7_71 : MOk 7 71 (0, 2, 1, 8, i8_byteAt) := (⟨m_2 (i := 225) rfl, m_2 (i := 226) rfl, m_2 (i := 227) rfl, rfl, by decide, b8_byteAt⟩ : MO0 7 71 1 1 8 i8_byteAt)
theorem q7_57 : MOk 7 57 (0, 3, 1, 7, i7_fail) := (⟨m_2 (i := 229) rfl, m_2 (i := 231) rfl, m_0 (i := 3) rfl, rfl, by decide, b7_fail⟩ : MO0 7 57 2 1 7 i7_fail)
theorem q7_75 : MOk 7 75 (0, 3, 1, 7, i7_readHead) := (⟨m_2 (i := 233) rfl, m_2 (i := 235) rfl, m_0 (i := 4) rfl, rfl, by decide, b7_readHead⟩ : MO0 7 75 2 1 7 i7_readHead)
theorem q7_91 : MOk 7 91 (0, 2, 1, 2, i2_hasHead) := (⟨m_2 (i := 237) rfl, m_2 (i := 238) rfl, m_2 (i := 239) rfl, rfl, by decide, b2_hasHead⟩ : MO0 7 91 1 1 2 i2_hasHead)
theorem q7_96 : MOk 7 96 (0, 3, 1, 7, i7_addNode) := (⟨m_3 (i := 1) rfl, m_3 (i := 3) rfl, m_0 (i := 5) rfl, rfl, by decide, b7_addNode⟩ : MO0 7 96 2 1 7 i7_addNode)
theorem q7_88 : MOk 7 88 (0, 2, 1, 5, i5_add) := (⟨m_3 (i := 5) rfl, m_3 (i := 6) rfl, m_3 (i := 7) rfl, rfl, by decide, b5_add⟩ : MO0 7 88 1 1 5 i5_add)
theorem q7_106 : MOk 7 106 (0, 3, 1, 7, i7_readParts) := (⟨m_3 (i := 9) rfl, m_3 (i := 11) rfl, m_0 (i := 6) rfl, rfl, by decide, b7_readParts⟩ : MO0 7 106 2 1 7 i7_readParts)
theorem q7_109 : MOk 7 109 (0, 2, 1, 7, i7_readBehindPart) := (⟨m_3 (i := 13) rfl, m_3 (i := 15) rfl, m_0 (i := 7) rfl, rfl, by decide, b7_readBehindPart⟩ : MO0 7 109 1 1 7 i7_readBehindPart)
theorem q7_78 : MOk 7 78 (0, 1, 1, 7, i7_readNumberNode) := (⟨m_3 (i := 17) rfl, m_3 (i := 19) rfl, m_0 (i := 8) rfl, rfl, by decide, b7_readNumberNode⟩ : MO0 7 78 0 1 7 i7_readNumberNode)
theorem q7_113 : MOk 7 113 (0, 1, 1, 7, i7_readNumber) := (⟨m_3 (i := 21) rfl, m_3 (i := 23) rfl, m_0 (i := 9) rfl, rfl, by decide, b7_readNumber⟩ : MO0 7 113 0 1 7 i7_readNumber)
theorem q7_120 : MOk 7 120 (0, 2, 1, 7, i7_endOfDigits) := (⟨m_3 (i := 25) rfl, m_3 (i := 27) rfl, m_0 (i := 10) rfl, rfl, by decide, b7_endOfDigits⟩ : MO0 7 120 1 1 7 i7_endOfDigits)
theorem q7_123 : MOk 7 123 (0, 3, 0, 7, i7_takeDigits) := (⟨m_3 (i := 29) rfl, m_3 (i := 31) rfl, m_0 (i := 11) rfl, rfl, by decide, b7_takeDigits⟩ : MO0 7 123 2 0 7 i7_takeDigits)
theorem q7_82 : MOk 7 82 (0, 1, 1, 7, i7_readHole) := (⟨m_3 (i := 34) rfl, m_3 (i := 36) rfl, m_0 (i := 12) rfl, rfl, by decide, b7_readHole⟩ : MO0 7 82 0 1 7 i7_readHole)
theorem q7_130 : MOk 7 130 (0, 2, 1, 7, i7_readKind) := (⟨m_3 (i := 38) rfl, m_3 (i := 40) rfl, m_0 (i := 13) rfl, rfl, by decide, b7_readKind⟩ : MO0 7 130 1 1 7 i7_readKind)
theorem q7_136 : MOk 7 136 (0, 2, 1, 2, i2_hasKind) := (⟨m_3 (i := 42) rfl, m_2 (i := 162) rfl, m_2 (i := 163) rfl, rfl, by decide, b2_hasKind⟩ : MO0 7 136 1 1 2 i2_hasKind)
theorem q7_133 : MOk 7 133 (0, 2, 1, 7, i7_readSpan) := (⟨m_3 (i := 43) rfl, m_3 (i := 45) rfl, m_0 (i := 14) rfl, rfl, by decide, b7_readSpan⟩ : MO0 7 133 1 1 7 i7_readSpan)
theorem q7_147 : MOk 7 147 (0, 2, 1, 7, i7_passSign) := (⟨m_3 (i := 47) rfl, m_3 (i := 49) rfl, m_0 (i := 15) rfl, rfl, by decide, b7_passSign⟩ : MO0 7 147 1 1 7 i7_passSign)
theorem q7_85 : MOk 7 85 (0, 3, 1, 7, i7_readOver) := (⟨m_3 (i := 51) rfl, m_3 (i := 53) rfl, m_0 (i := 16) rfl, rfl, by decide, b7_readOver⟩ : MO0 7 85 2 1 7 i7_readOver)
theorem q8_9 : MOk 8 9 (4, 2, 1, 0, i12_) := (m_1 (i := 59) rfl : Cond.methodLink (cnm 8) 9 Lib.Math.max.name ∈ lw_tbl)
theorem q8_25 : MOk 8 25 (0, 2, 0, 8, i8_add) := (⟨m_2 (i := 197) rfl, m_2 (i := 198) rfl, m_2 (i := 199) rfl, rfl, by decide, b8_add⟩ : MO0 8 25 1 0 8 i8_add)
theorem q8_29 : MOk 8 29 (7, 1, 2, 0, i12_) := (m_4 (i := 159) rfl : Cond.methodLink (cnm 8) 29 Lib.MathLoose.abs_long.x ∈ lw_tbl)
theorem q9_9 : MOk 9 9 (2, 1, 0, 2, i2_init) := (⟨m_1 (i := 25) rfl, m_1 (i := 26) rfl, rfl, by decide, rfl, b2_init⟩ : MO2 9 9 0 0 2 i2_init)
theorem q9_18 : MOk 9 18 (2, 2, 0, 8, i8_init) := (⟨m_1 (i := 55) rfl, m_1 (i := 56) rfl, rfl, by decide, rfl, b8_init⟩ : MO2 9 18 1 0 8 i8_init)
theorem q9_30 : MOk 9 30 (2, 2, 0, 5, i5_init) := (⟨m_1 (i := 75) rfl, m_1 (i := 76) rfl, rfl, by decide, rfl, b5_init⟩ : MO2 9 30 1 0 5 i5_init)
theorem q9_44 : MOk 9 44 (3, 1, 0, 6, i6_init) := (⟨by unfold NW; simp, m_1 (i := 158) rfl, rfl, by decide, rfl, b6_init⟩ : MO3 9 44 0 0 6 i6_init)
theorem q9_47 : MOk 9 47 (3, 1, 0, 0, i0_init) := (⟨by unfold NW; simp, m_1 (i := 166) rfl, rfl, by decide, rfl, b0_init⟩ : MO3 9 47 0 0 0 i0_init)
theorem q9_54 : MOk 9 54 (2, 4, 0, 7, i7_init) := (⟨m_1 (i := 232) rfl, m_1 (i := 233) rfl, rfl, by decide, rfl, b7_init⟩ : MO2 9 54 3 0 7 i7_init)
theorem q9_63 : MOk 9 63 (2, 4, 0, 3, i3_init) := (⟨m_2 (i := 27) rfl, m_2 (i := 28) rfl, rfl, by decide, rfl, b3_init⟩ : MO2 9 63 3 0 3 i3_init)
theorem q9_72 : MOk 9 72 (2, 4, 0, 1, i1_init) := (⟨m_2 (i := 64) rfl, m_2 (i := 65) rfl, rfl, by decide, rfl, b1_init⟩ : MO2 9 72 3 0 1 i1_init)
theorem q9_81 : MOk 9 81 (2, 4, 0, 4, i4_init) := (⟨m_2 (i := 93) rfl, m_2 (i := 94) rfl, rfl, by decide, rfl, b4_init⟩ : MO2 9 81 3 0 4 i4_init)
theorem q9_92 : MOk 9 92 (0, 2, 1, 2, i2_hasKind) := (⟨m_2 (i := 161) rfl, m_2 (i := 162) rfl, m_2 (i := 163) rfl, rfl, by decide, b2_hasKind⟩ : MO0 9 92 1 1 2 i2_hasKind)
theorem q9_96 : MOk 9 96 (0, 2, 1, 2, i2_addKind) := (⟨m_2 (i := 165) rfl, m_2 (i := 166) rfl, m_2 (i := 167) rfl, rfl, by decide, b2_addKind⟩ : MO0 9 96 1 1 2 i2_addKind)
theorem q9_100 : MOk 9 100 (0, 3, 1, 2, i2_isBelow) := (⟨m_2 (i := 173) rfl, m_2 (i := 174) rfl, m_2 (i := 175) rfl, rfl, by decide, b2_isBelow⟩ : MO0 9 100 2 1 2 i2_isBelow)
theorem q9_104 : MOk 9 104 (1, 1, 1, 0, i9_asInt) := (⟨m_2 (i := 178) rfl, m_2 (i := 179) rfl, b9_asInt⟩ : MO1 9 104 1 1 i9_asInt)
theorem q9_108 : MOk 9 108 (0, 4, 1, 2, i2_addHead) := (⟨m_2 (i := 185) rfl, m_2 (i := 186) rfl, m_2 (i := 187) rfl, rfl, by decide, b2_addHead⟩ : MO0 9 108 3 1 2 i2_addHead)
theorem q9_116 : MOk 9 116 (0, 2, 0, 8, i8_addFour) := (⟨m_2 (i := 193) rfl, m_2 (i := 194) rfl, m_2 (i := 195) rfl, rfl, by decide, b8_addFour⟩ : MO0 9 116 1 0 8 i8_addFour)
theorem q9_119 : MOk 9 119 (0, 1, 1, 9, i9_freeNumber) := (⟨m_2 (i := 209) rfl, m_2 (i := 211) rfl, m_0 (i := 0) rfl, rfl, by decide, b9_freeNumber⟩ : MO0 9 119 0 1 9 i9_freeNumber)
theorem q9_123 : MOk 9 123 (0, 3, 1, 7, i7_read) := (⟨m_2 (i := 213) rfl, m_2 (i := 214) rfl, m_2 (i := 215) rfl, rfl, by decide, b7_read⟩ : MO0 9 123 2 1 7 i7_read)
theorem q9_127 : MOk 9 127 (0, 4, 0, 6, i6_take) := (⟨m_3 (i := 55) rfl, m_3 (i := 56) rfl, m_3 (i := 57) rfl, rfl, by decide, b6_take⟩ : MO0 9 127 3 0 6 i6_take)
theorem q9_131 : MOk 9 131 (0, 1, 0, 9, i9_forgetAnswers) := (⟨m_3 (i := 88) rfl, m_3 (i := 90) rfl, m_0 (i := 20) rfl, rfl, by decide, b9_forgetAnswers⟩ : MO0 9 131 0 0 9 i9_forgetAnswers)
theorem q9_134 : MOk 9 134 (0, 2, 9, 9, i9_patternOf) := (⟨m_3 (i := 96) rfl, m_3 (i := 98) rfl, m_0 (i := 21) rfl, rfl, by decide, b9_patternOf⟩ : MO0 9 134 1 9 9 i9_patternOf)
theorem q9_142 : MOk 9 142 (0, 1, 1, 9, i9_presentPatterns) := (⟨m_3 (i := 100) rfl, m_3 (i := 102) rfl, m_0 (i := 22) rfl, rfl, by decide, b9_presentPatterns⟩ : MO0 9 142 0 1 9 i9_presentPatterns)
theorem q9_148 : MOk 9 148 (0, 3, 1, 9, i9_replaceInTree) := (⟨m_3 (i := 108) rfl, m_3 (i := 110) rfl, m_0 (i := 23) rfl, rfl, by decide, b9_replaceInTree⟩ : MO0 9 148 2 1 9 i9_replaceInTree)
theorem q9_287 : MOk 9 287 (0, 4, 0, 5, i5_replace) := (⟨m_3 (i := 112) rfl, m_3 (i := 60) rfl, m_3 (i := 61) rfl, rfl, by decide, b5_replace⟩ : MO0 9 287 3 0 5 i5_replace)
theorem q9_291 : MOk 9 291 (0, 2, 0, 5, i5_link) := (⟨m_3 (i := 113) rfl, m_3 (i := 68) rfl, m_3 (i := 69) rfl, rfl, by decide, b5_link⟩ : MO0 9 291 1 0 5 i5_link)
theorem q9_152 : MOk 9 152 (0, 2, 1, 5, i5_has) := (⟨m_3 (i := 118) rfl, m_3 (i := 119) rfl, m_3 (i := 120) rfl, rfl, by decide, b5_has⟩ : MO0 9 152 1 1 5 i5_has)
theorem q9_167 : MOk 9 167 (0, 1, 1, 4, i4_patternsIn) := (⟨m_3 (i := 130) rfl, m_3 (i := 131) rfl, m_3 (i := 132) rfl, rfl, by decide, b4_patternsIn⟩ : MO0 9 167 0 1 4 i4_patternsIn)
theorem q9_170 : MOk 9 170 (0, 1, 1, 4, i4_stepsIn) := (⟨m_3 (i := 138) rfl, m_3 (i := 139) rfl, m_3 (i := 140) rfl, rfl, by decide, b4_stepsIn⟩ : MO0 9 170 0 1 4 i4_stepsIn)
theorem q9_173 : MOk 9 173 (0, 1, 1, 4, i4_marksIn) := (⟨m_3 (i := 158) rfl, m_3 (i := 159) rfl, m_3 (i := 160) rfl, rfl, by decide, b4_marksIn⟩ : MO0 9 173 0 1 4 i4_marksIn)
theorem q9_182 : MOk 9 182 (0, 1, 1, 6, i6_isInNet) := (⟨m_3 (i := 166) rfl, m_3 (i := 135) rfl, m_3 (i := 136) rfl, rfl, by decide, b6_isInNet⟩ : MO0 9 182 0 1 6 i6_isInNet)
theorem q9_207 : MOk 9 207 (0, 3, 1, 2, i2_kindOfNode) := (⟨m_3 (i := 172) rfl, m_3 (i := 173) rfl, m_3 (i := 174) rfl, rfl, by decide, b2_kindOfNode⟩ : MO0 9 207 2 1 2 i2_kindOfNode)
theorem q9_213 : MOk 9 213 (0, 3, 1, 5, i5_areAlike) := (⟨m_3 (i := 181) rfl, m_3 (i := 182) rfl, m_3 (i := 183) rfl, rfl, by decide, b5_areAlike⟩ : MO0 9 213 2 1 5 i5_areAlike)
theorem q9_219 : MOk 9 219 (0, 1, 0, 9, i9_askAll) := (⟨m_3 (i := 190) rfl, m_3 (i := 192) rfl, m_0 (i := 26) rfl, rfl, by decide, b9_askAll⟩ : MO0 9 219 0 0 9 i9_askAll)
theorem q9_242 : MOk 9 242 (0, 5, 0, 3, i3_run) := (⟨m_3 (i := 194) rfl, m_3 (i := 195) rfl, m_3 (i := 196) rfl, rfl, by decide, b3_run⟩ : MO0 9 242 4 0 3 i3_run)
theorem q9_295 : MOk 9 295 (0, 2, 0, 9, i9_addFitting) := (⟨m_4 (i := 42) rfl, m_4 (i := 44) rfl, m_0 (i := 38) rfl, rfl, by decide, b9_addFitting⟩ : MO0 9 295 1 0 9 i9_addFitting)
theorem q9_229 : MOk 9 229 (0, 2, 1, 0, i0_has) := (⟨m_4 (i := 58) rfl, m_4 (i := 59) rfl, m_4 (i := 60) rfl, rfl, by decide, b0_has⟩ : MO0 9 229 1 1 0 i0_has)
theorem q9_230 : MOk 9 230 (0, 3, 1, 0, i0_nodeOf) := (⟨m_4 (i := 62) rfl, m_3 (i := 223) rfl, m_3 (i := 224) rfl, rfl, by decide, b0_nodeOf⟩ : MO0 9 230 2 1 0 i0_nodeOf)
theorem q9_246 : MOk 9 246 (0, 3, 1, 1, i1_nodeFound) := (⟨m_4 (i := 75) rfl, m_4 (i := 76) rfl, m_4 (i := 77) rfl, rfl, by decide, b1_nodeFound⟩ : MO0 9 246 2 1 1 i1_nodeFound)
theorem q9_250 : MOk 9 250 (0, 2, 1, 4, i4_looksAtTree) := (⟨m_4 (i := 84) rfl, m_4 (i := 85) rfl, m_4 (i := 86) rfl, rfl, by decide, b4_looksAtTree⟩ : MO0 9 250 1 1 4 i4_looksAtTree)
theorem q9_253 : MOk 9 253 (0, 2, 1, 4, i4_marksThatGo) := (⟨m_4 (i := 103) rfl, m_4 (i := 89) rfl, m_4 (i := 90) rfl, rfl, by decide, b4_marksThatGo⟩ : MO0 9 253 1 1 4 i4_marksThatGo)
theorem q9_260 : MOk 9 260 (0, 3, 1, 4, i4_likeMarks) := (⟨m_4 (i := 108) rfl, m_3 (i := 147) rfl, m_3 (i := 148) rfl, rfl, by decide, b4_likeMarks⟩ : MO0 9 260 2 1 4 i4_likeMarks)
theorem q9_264 : MOk 9 264 (0, 1, 1, 6, i6_hasNameTwice) := (⟨m_4 (i := 113) rfl, m_4 (i := 114) rfl, m_4 (i := 115) rfl, rfl, by decide, b6_hasNameTwice⟩ : MO0 9 264 0 1 6 i6_hasNameTwice)
theorem q9_267 : MOk 9 267 (0, 3, 1, 4, i4_haveTreeInCommon) := (⟨m_4 (i := 117) rfl, m_4 (i := 118) rfl, m_4 (i := 119) rfl, rfl, by decide, b4_haveTreeInCommon⟩ : MO0 9 267 2 1 4 i4_haveTreeInCommon)
theorem q9_271 : MOk 9 271 (1, 3, 1, 0, i11_write) := (⟨m_4 (i := 147) rfl, m_4 (i := 148) rfl, b11_write⟩ : MO1 9 271 3 1 i11_write)
theorem q9_277 : MOk 9 277 (0, 2, 1, 8, i8_byteAt) := (⟨m_4 (i := 177) rfl, m_2 (i := 226) rfl, m_2 (i := 227) rfl, rfl, by decide, b8_byteAt⟩ : MO0 9 277 1 1 8 i8_byteAt)
theorem q9_280 : MOk 9 280 (0, 2, 0, 8, i8_add) := (⟨m_4 (i := 182) rfl, m_2 (i := 198) rfl, m_2 (i := 199) rfl, rfl, by decide, b8_add⟩ : MO0 9 280 1 0 8 i8_add)
theorem q10_186 : MOk 10 186 (0, 2, 1, 10, i10_noKind) := (⟨m_5 (i := 195) rfl, m_5 (i := 197) rfl, m_0 (i := 43) rfl, rfl, by decide, b10_noKind⟩ : MO0 10 186 1 1 10 i10_noKind)
theorem q10_182 : MOk 10 182 (1, 3, 1, 0, i10_in) := (⟨m_5 (i := 199) rfl, m_5 (i := 200) rfl, b10_in⟩ : MO1 10 182 3 1 i10_in)
theorem q10_190 : MOk 10 190 (0, 3, 1, 10, i10_lies) := (⟨m_5 (i := 206) rfl, m_5 (i := 208) rfl, m_0 (i := 44) rfl, rfl, by decide, b10_lies⟩ : MO0 10 190 2 1 10 i10_lies)
theorem q10_202 : MOk 10 202 (0, 2, 0, 10, i10_four) := (⟨m_5 (i := 219) rfl, m_5 (i := 221) rfl, m_0 (i := 45) rfl, rfl, by decide, b10_four⟩ : MO0 10 202 1 0 10 i10_four)
theorem q10_305 : MOk 10 305 (0, 3, 0, 10, i10_read) := (⟨m_5 (i := 236) rfl, m_5 (i := 238) rfl, m_0 (i := 46) rfl, rfl, by decide, b10_read⟩ : MO0 10 305 2 0 10 i10_read)
theorem q10_242 : MOk 10 242 (0, 1, 1, 10, i10_fine) := (⟨m_6 (i := 0) rfl, m_6 (i := 2) rfl, m_0 (i := 47) rfl, rfl, by decide, b10_fine⟩ : MO0 10 242 0 1 10 i10_fine)
theorem q10_297 : MOk 10 297 (0, 1, 0, 10, i10_readNode) := (⟨m_6 (i := 4) rfl, m_6 (i := 6) rfl, m_0 (i := 48) rfl, rfl, by decide, b10_readNode⟩ : MO0 10 297 0 0 10 i10_readNode)
theorem q10_256 : MOk 10 256 (0, 1, 0, 10, i10_blanks) := (⟨m_6 (i := 8) rfl, m_6 (i := 10) rfl, m_0 (i := 49) rfl, rfl, by decide, b10_blanks⟩ : MO0 10 256 0 0 10 i10_blanks)
theorem q10_224 : MOk 10 224 (0, 1, 1, 10, i10_here) := (⟨m_6 (i := 12) rfl, m_6 (i := 14) rfl, m_0 (i := 50) rfl, rfl, by decide, b10_here⟩ : MO0 10 224 0 1 10 i10_here)
theorem q10_263 : MOk 10 263 (0, 2, 0, 10, i10_readLetter) := (⟨m_6 (i := 18) rfl, m_6 (i := 20) rfl, m_0 (i := 51) rfl, rfl, by decide, b10_readLetter⟩ : MO0 10 263 1 0 10 i10_readLetter)
theorem q10_232 : MOk 10 232 (0, 3, 0, 10, i10_wrong) := (⟨m_6 (i := 22) rfl, m_6 (i := 24) rfl, m_0 (i := 52) rfl, rfl, by decide, b10_wrong⟩ : MO0 10 232 2 0 10 i10_wrong)
theorem q10_270 : MOk 10 270 (0, 2, 1, 10, i10_newNode) := (⟨m_6 (i := 26) rfl, m_6 (i := 28) rfl, m_0 (i := 53) rfl, rfl, by decide, b10_newNode⟩ : MO0 10 270 1 1 10 i10_newNode)
theorem q10_283 : MOk 10 283 (0, 1, 0, 10, i10_deeper) := (⟨m_6 (i := 30) rfl, m_6 (i := 32) rfl, m_0 (i := 54) rfl, rfl, by decide, b10_deeper⟩ : MO0 10 283 0 0 10 i10_deeper)
theorem q10_286 : MOk 10 286 (0, 2, 0, 10, i10_push) := (⟨m_6 (i := 34) rfl, m_6 (i := 36) rfl, m_0 (i := 55) rfl, rfl, by decide, b10_push⟩ : MO0 10 286 1 0 10 i10_push)
theorem q10_273 : MOk 10 273 (0, 2, 0, 10, i10_ended) := (⟨m_6 (i := 38) rfl, m_6 (i := 40) rfl, m_0 (i := 56) rfl, rfl, by decide, b10_ended⟩ : MO0 10 273 1 0 10 i10_ended)
theorem q10_219 : MOk 10 219 (1, 1, 1, 0, i10_isDigit) := (⟨m_6 (i := 42) rfl, m_6 (i := 43) rfl, b10_isDigit⟩ : MO1 10 219 1 1 i10_isDigit)
theorem q10_266 : MOk 10 266 (0, 2, 2, 10, i10_number) := (⟨m_6 (i := 47) rfl, m_6 (i := 49) rfl, m_0 (i := 57) rfl, rfl, by decide, b10_number⟩ : MO0 10 266 1 2 10 i10_number)
theorem q10_228 : MOk 10 228 (0, 2, 1, 10, i10_digitsFrom) := (⟨m_6 (i := 51) rfl, m_6 (i := 53) rfl, m_0 (i := 58) rfl, rfl, by decide, b10_digitsFrom⟩ : MO0 10 228 1 1 10 i10_digitsFrom)
theorem q10_246 : MOk 10 246 (0, 2, 2, 10, i10_digits) := (⟨m_6 (i := 55) rfl, m_6 (i := 57) rfl, m_0 (i := 59) rfl, rfl, by decide, b10_digits⟩ : MO0 10 246 1 2 10 i10_digits)
theorem q10_280 : MOk 10 280 (0, 1, 0, 10, i10_readHole) := (⟨m_6 (i := 60) rfl, m_6 (i := 62) rfl, m_0 (i := 60) rfl, rfl, by decide, b10_readHole⟩ : MO0 10 280 0 0 10 i10_readHole)
theorem q10_289 : MOk 10 289 (0, 2, 0, 10, i10_readSpan) := (⟨m_6 (i := 64) rfl, m_6 (i := 66) rfl, m_0 (i := 61) rfl, rfl, by decide, b10_readSpan⟩ : MO0 10 289 1 0 10 i10_readSpan)
theorem q10_291 : MOk 10 291 (0, 2, 0, 10, i10_take) := (⟨m_6 (i := 68) rfl, m_6 (i := 70) rfl, m_0 (i := 62) rfl, rfl, by decide, b10_take⟩ : MO0 10 291 1 0 10 i10_take)
theorem q10_314 : MOk 10 314 (0, 2, 1, 10, i10_noPattern) := (⟨m_6 (i := 76) rfl, m_6 (i := 78) rfl, m_0 (i := 63) rfl, rfl, by decide, b10_noPattern⟩ : MO0 10 314 1 1 10 i10_noPattern)
theorem q10_320 : MOk 10 320 (0, 1, 0, 10, i10_findUps) := (⟨m_6 (i := 85) rfl, m_6 (i := 87) rfl, m_0 (i := 64) rfl, rfl, by decide, b10_findUps⟩ : MO0 10 320 0 0 10 i10_findUps)
theorem q10_323 : MOk 10 323 (0, 2, 1, 10, i10_noNode) := (⟨m_6 (i := 93) rfl, m_6 (i := 95) rfl, m_0 (i := 65) rfl, rfl, by decide, b10_noNode⟩ : MO0 10 323 1 1 10 i10_noNode)
theorem q10_329 : MOk 10 329 (0, 2, 1, 10, i10_netSize) := (⟨m_6 (i := 101) rfl, m_6 (i := 103) rfl, m_0 (i := 66) rfl, rfl, by decide, b10_netSize⟩ : MO0 10 329 1 1 10 i10_netSize)
theorem q10_339 : MOk 10 339 (0, 2, 1, 10, i10_inNet) := (⟨m_6 (i := 105) rfl, m_6 (i := 107) rfl, m_0 (i := 67) rfl, rfl, by decide, b10_inNet⟩ : MO0 10 339 1 1 10 i10_inNet)
theorem q10_326 : MOk 10 326 (0, 2, 1, 10, i10_oddOf) := (⟨m_6 (i := 109) rfl, m_6 (i := 111) rfl, m_0 (i := 68) rfl, rfl, by decide, b10_oddOf⟩ : MO0 10 326 1 1 10 i10_oddOf)
theorem q10_333 : MOk 10 333 (0, 1, 1, 10, i10_steps) := (⟨m_6 (i := 113) rfl, m_6 (i := 115) rfl, m_0 (i := 69) rfl, rfl, by decide, b10_steps⟩ : MO0 10 333 0 1 10 i10_steps)
theorem q10_434 : MOk 10 434 (0, 3, 1, 10, i10_isNew) := (⟨m_6 (i := 117) rfl, m_6 (i := 119) rfl, m_0 (i := 70) rfl, rfl, by decide, b10_isNew⟩ : MO0 10 434 2 1 10 i10_isNew)
theorem q10_431 : MOk 10 431 (0, 3, 1, 10, i10_common) := (⟨m_6 (i := 121) rfl, m_6 (i := 123) rfl, m_0 (i := 71) rfl, rfl, by decide, b10_common⟩ : MO0 10 431 2 1 10 i10_common)
theorem q10_427 : MOk 10 427 (0, 4, 1, 10, i10_areMarksLike) := (⟨m_6 (i := 125) rfl, m_6 (i := 127) rfl, m_0 (i := 72) rfl, rfl, by decide, b10_areMarksLike⟩ : MO0 10 427 3 1 10 i10_areMarksLike)
theorem q10_424 : MOk 10 424 (0, 3, 1, 10, i10_againOf) := (⟨m_6 (i := 129) rfl, m_6 (i := 131) rfl, m_0 (i := 73) rfl, rfl, by decide, b10_againOf⟩ : MO0 10 424 2 1 10 i10_againOf)
theorem q10_342 : MOk 10 342 (0, 3, 1, 10, i10_namesOf) := (⟨m_6 (i := 137) rfl, m_6 (i := 139) rfl, m_0 (i := 74) rfl, rfl, by decide, b10_namesOf⟩ : MO0 10 342 2 1 10 i10_namesOf)
theorem q10_348 : MOk 10 348 (0, 2, 1, 10, i10_kindOf) := (⟨m_6 (i := 146) rfl, m_6 (i := 148) rfl, m_0 (i := 75) rfl, rfl, by decide, b10_kindOf⟩ : MO0 10 348 1 1 10 i10_kindOf)
theorem q10_353 : MOk 10 353 (0, 3, 1, 10, i10_areAlike) := (⟨m_6 (i := 155) rfl, m_6 (i := 157) rfl, m_0 (i := 76) rfl, rfl, by decide, b10_areAlike⟩ : MO0 10 353 2 1 10 i10_areAlike)
theorem q10_414 : MOk 10 414 (0, 3, 0, 10, i10_fitAll) := (⟨m_6 (i := 163) rfl, m_6 (i := 165) rfl, m_0 (i := 77) rfl, rfl, by decide, b10_fitAll⟩ : MO0 10 414 2 0 10 i10_fitAll)
theorem q10_373 : MOk 10 373 (0, 4, 1, 10, i10_goal) := (⟨m_6 (i := 167) rfl, m_6 (i := 169) rfl, m_0 (i := 78) rfl, rfl, by decide, b10_goal⟩ : MO0 10 373 3 1 10 i10_goal)
theorem q10_405 : MOk 10 405 (0, 1, 0, 10, i10_keep) := (⟨m_6 (i := 171) rfl, m_6 (i := 173) rfl, m_0 (i := 79) rfl, rfl, by decide, b10_keep⟩ : MO0 10 405 0 0 10 i10_keep)
theorem q10_408 : MOk 10 408 (0, 1, 1, 10, i10_doGoal) := (⟨m_6 (i := 175) rfl, m_6 (i := 177) rfl, m_0 (i := 80) rfl, rfl, by decide, b10_doGoal⟩ : MO0 10 408 0 1 10 i10_doGoal)
theorem q10_385 : MOk 10 385 (0, 6, 0, 10, i10_choose) := (⟨m_6 (i := 179) rfl, m_6 (i := 181) rfl, m_0 (i := 81) rfl, rfl, by decide, b10_choose⟩ : MO0 10 385 5 0 10 i10_choose)
theorem q10_389 : MOk 10 389 (0, 5, 1, 10, i10_partsBy) := (⟨m_6 (i := 183) rfl, m_6 (i := 185) rfl, m_0 (i := 82) rfl, rfl, by decide, b10_partsBy⟩ : MO0 10 389 4 1 10 i10_partsBy)
theorem q10_362 : MOk 10 362 (0, 3, 0, 10, i10_order) := (⟨m_6 (i := 187) rfl, m_6 (i := 189) rfl, m_0 (i := 83) rfl, rfl, by decide, b10_order⟩ : MO0 10 362 2 0 10 i10_order)
theorem q10_365 : MOk 10 365 (0, 4, 1, 10, i10_partOf) := (⟨m_6 (i := 191) rfl, m_6 (i := 193) rfl, m_0 (i := 84) rfl, rfl, by decide, b10_partOf⟩ : MO0 10 365 3 1 10 i10_partOf)
theorem q10_369 : MOk 10 369 (0, 3, 1, 10, i10_treePart) := (⟨m_6 (i := 195) rfl, m_6 (i := 197) rfl, m_0 (i := 85) rfl, rfl, by decide, b10_treePart⟩ : MO0 10 369 2 1 10 i10_treePart)
theorem q10_393 : MOk 10 393 (0, 3, 1, 10, i10_holds) := (⟨m_6 (i := 199) rfl, m_6 (i := 201) rfl, m_0 (i := 86) rfl, rfl, by decide, b10_holds⟩ : MO0 10 393 2 1 10 i10_holds)
theorem q10_411 : MOk 10 411 (0, 1, 1, 10, i10_goBack) := (⟨m_6 (i := 203) rfl, m_6 (i := 205) rfl, m_0 (i := 87) rfl, rfl, by decide, b10_goBack⟩ : MO0 10 411 0 1 10 i10_goBack)
theorem q10_396 : MOk 10 396 (1, 1, 1, 0, i10_orders) := (⟨m_6 (i := 207) rfl, m_6 (i := 208) rfl, b10_orders⟩ : MO1 10 396 1 1 i10_orders)
theorem q10_417 : MOk 10 417 (0, 3, 1, 10, i10_isAhead) := (⟨m_6 (i := 214) rfl, m_6 (i := 216) rfl, m_0 (i := 88) rfl, rfl, by decide, b10_isAhead⟩ : MO0 10 417 2 1 10 i10_isAhead)
theorem q10_440 : MOk 10 440 (0, 2, 1, 10, i10_goesWith) := (⟨m_7 (i := 4) rfl, m_7 (i := 6) rfl, m_0 (i := 89) rfl, rfl, by decide, b10_goesWith⟩ : MO0 10 440 1 1 10 i10_goesWith)
theorem q10_456 : MOk 10 456 (0, 3, 1, 10, i10_meet) := (⟨m_7 (i := 20) rfl, m_7 (i := 22) rfl, m_0 (i := 90) rfl, rfl, by decide, b10_meet⟩ : MO0 10 456 2 1 10 i10_meet)
theorem q10_450 : MOk 10 450 (0, 3, 1, 10, i10_canHole) := (⟨m_7 (i := 24) rfl, m_7 (i := 26) rfl, m_0 (i := 91) rfl, rfl, by decide, b10_canHole⟩ : MO0 10 450 2 1 10 i10_canHole)
theorem q10_447 : MOk 10 447 (0, 3, 1, 10, i10_hasHead) := (⟨m_7 (i := 30) rfl, m_7 (i := 32) rfl, m_0 (i := 92) rfl, rfl, by decide, b10_hasHead⟩ : MO0 10 447 2 1 10 i10_hasHead)
theorem q10_453 : MOk 10 453 (0, 4, 1, 10, i10_canBe) := (⟨m_7 (i := 34) rfl, m_7 (i := 36) rfl, m_0 (i := 93) rfl, rfl, by decide, b10_canBe⟩ : MO0 10 453 3 1 10 i10_canBe)
theorem q10_472 : MOk 10 472 (0, 2, 0, 10, i10_putHead) := (⟨m_7 (i := 42) rfl, m_7 (i := 44) rfl, m_0 (i := 94) rfl, rfl, by decide, b10_putHead⟩ : MO0 10 472 1 0 10 i10_putHead)
theorem q10_459 : MOk 10 459 (0, 2, 0, 10, i10_put) := (⟨m_7 (i := 46) rfl, m_7 (i := 48) rfl, m_0 (i := 95) rfl, rfl, by decide, b10_put⟩ : MO0 10 459 1 0 10 i10_put)
theorem q10_465 : MOk 10 465 (0, 1, 0, 10, i10_shutAll) := (⟨m_7 (i := 50) rfl, m_7 (i := 52) rfl, m_0 (i := 96) rfl, rfl, by decide, b10_shutAll⟩ : MO0 10 465 0 0 10 i10_shutAll)
theorem q10_468 : MOk 10 468 (0, 2, 0, 10, i10_putNumber) := (⟨m_7 (i := 54) rfl, m_7 (i := 56) rfl, m_0 (i := 97) rfl, rfl, by decide, b10_putNumber⟩ : MO0 10 468 1 0 10 i10_putNumber)
theorem q10_475 : MOk 10 475 (0, 2, 0, 10, i10_putHole) := (⟨m_7 (i := 58) rfl, m_7 (i := 60) rfl, m_0 (i := 98) rfl, rfl, by decide, b10_putHole⟩ : MO0 10 475 1 0 10 i10_putHole)
theorem q11_15 : MOk 11 15 (0, 2, 1, 5, i5_has) := (⟨m_4 (i := 150) rfl, m_3 (i := 119) rfl, m_3 (i := 120) rfl, rfl, by decide, b5_has⟩ : MO0 11 15 1 1 5 i5_has)
theorem q11_25 : MOk 11 25 (1, 3, 0, 0, i11_writeNode) := (⟨m_4 (i := 151) rfl, m_4 (i := 152) rfl, b11_writeNode⟩ : MO1 11 25 3 0 i11_writeNode)
theorem q11_38 : MOk 11 38 (0, 2, 0, 8, i8_add) := (⟨m_4 (i := 154) rfl, m_2 (i := 198) rfl, m_2 (i := 199) rfl, rfl, by decide, b8_add⟩ : MO0 11 38 1 0 8 i8_add)
theorem q11_49 : MOk 11 49 (0, 2, 0, 8, i8_addNumber) := (⟨m_4 (i := 155) rfl, m_4 (i := 156) rfl, m_4 (i := 157) rfl, rfl, by decide, b8_addNumber⟩ : MO0 11 49 1 0 8 i8_addNumber)
theorem q11_53 : MOk 11 53 (1, 3, 0, 0, i11_writeHole) := (⟨m_4 (i := 163) rfl, m_4 (i := 164) rfl, b11_writeHole⟩ : MO1 11 53 3 0 i11_writeHole)
theorem q11_31 : MOk 11 31 (1, 4, 0, 0, i11_writeBehind) := (⟨m_4 (i := 166) rfl, m_4 (i := 167) rfl, b11_writeBehind⟩ : MO1 11 31 4 0 i11_writeBehind)
theorem q13_9 : MOk 13 9 (2, 1, 0, 9, i9_init) := (⟨m_1 (i := 17) rfl, m_1 (i := 18) rfl, rfl, by decide, rfl, b9_init⟩ : MO2 13 9 0 0 9 i9_init)
theorem q13_13 : MOk 13 13 (0, 2, 1, 9, i9_kind) := (⟨m_2 (i := 157) rfl, m_2 (i := 158) rfl, m_2 (i := 159) rfl, rfl, by decide, b9_kind⟩ : MO0 13 13 1 1 9 i9_kind)
theorem q13_18 : MOk 13 18 (0, 3, 1, 9, i9_isUnder) := (⟨m_2 (i := 169) rfl, m_2 (i := 170) rfl, m_2 (i := 171) rfl, rfl, by decide, b9_isUnder⟩ : MO0 13 18 2 1 9 i9_isUnder)
theorem q13_23 : MOk 13 23 (0, 4, 1, 9, i9_head) := (⟨m_2 (i := 181) rfl, m_2 (i := 182) rfl, m_2 (i := 183) rfl, rfl, by decide, b9_head⟩ : MO0 13 23 3 1 9 i9_head)
theorem q13_28 : MOk 13 28 (0, 6, 1, 9, i9_feed) := (⟨m_2 (i := 189) rfl, m_2 (i := 190) rfl, m_2 (i := 191) rfl, rfl, by decide, b9_feed⟩ : MO0 13 28 5 1 9 i9_feed)
theorem q13_33 : MOk 13 33 (0, 2, 1, 9, i9_cut) := (⟨m_2 (i := 201) rfl, m_2 (i := 202) rfl, m_2 (i := 203) rfl, rfl, by decide, b9_cut⟩ : MO0 13 33 1 1 9 i9_cut)
theorem q13_37 : MOk 13 37 (0, 2, 1, 9, i9_pattern) := (⟨m_2 (i := 205) rfl, m_2 (i := 206) rfl, m_2 (i := 207) rfl, rfl, by decide, b9_pattern⟩ : MO0 13 37 1 1 9 i9_pattern)
theorem q13_41 : MOk 13 41 (0, 2, 1, 9, i9_drop) := (⟨m_3 (i := 92) rfl, m_3 (i := 93) rfl, m_3 (i := 94) rfl, rfl, by decide, b9_drop⟩ : MO0 13 41 1 1 9 i9_drop)
theorem q13_45 : MOk 13 45 (0, 1, 1, 9, i9_tree) := (⟨m_3 (i := 104) rfl, m_3 (i := 105) rfl, m_3 (i := 106) rfl, rfl, by decide, b9_tree⟩ : MO0 13 45 0 1 9 i9_tree)
theorem q13_50 : MOk 13 50 (0, 2, 1, 9, i9_change) := (⟨m_3 (i := 114) rfl, m_3 (i := 115) rfl, m_3 (i := 116) rfl, rfl, by decide, b9_change⟩ : MO0 13 50 1 1 9 i9_change)
theorem q13_54 : MOk 13 54 (0, 1, 1, 9, i9_place) := (⟨m_3 (i := 122) rfl, m_3 (i := 123) rfl, m_3 (i := 124) rfl, rfl, by decide, b9_place⟩ : MO0 13 54 0 1 9 i9_place)
theorem q13_58 : MOk 13 58 (0, 2, 1, 9, i9_count) := (⟨m_3 (i := 126) rfl, m_3 (i := 127) rfl, m_3 (i := 128) rfl, rfl, by decide, b9_count⟩ : MO0 13 58 1 1 9 i9_count)
theorem q13_62 : MOk 13 62 (0, 3, 1, 9, i9_told) := (⟨m_3 (i := 162) rfl, m_3 (i := 163) rfl, m_3 (i := 164) rfl, rfl, by decide, b9_told⟩ : MO0 13 62 2 1 9 i9_told)
theorem q13_66 : MOk 13 66 (0, 3, 2, 9, i9_node) := (⟨m_3 (i := 167) rfl, m_3 (i := 168) rfl, m_3 (i := 169) rfl, rfl, by decide, b9_node⟩ : MO0 13 66 2 2 9 i9_node)
theorem q13_71 : MOk 13 71 (0, 3, 1, 9, i9_alike) := (⟨m_3 (i := 177) rfl, m_3 (i := 178) rfl, m_3 (i := 179) rfl, rfl, by decide, b9_alike⟩ : MO0 13 71 2 1 9 i9_alike)
theorem q13_75 : MOk 13 75 (0, 1, 1, 9, i9_ask) := (⟨m_3 (i := 186) rfl, m_3 (i := 187) rfl, m_3 (i := 188) rfl, rfl, by decide, b9_ask⟩ : MO0 13 75 0 1 9 i9_ask)
theorem q13_79 : MOk 13 79 (0, 2, 1, 9, i9_fit) := (⟨m_4 (i := 46) rfl, m_4 (i := 47) rfl, m_4 (i := 48) rfl, rfl, by decide, b9_fit⟩ : MO0 13 79 1 1 9 i9_fit)
theorem q13_83 : MOk 13 83 (0, 2, 1, 9, i9_fillings) := (⟨m_4 (i := 50) rfl, m_4 (i := 51) rfl, m_4 (i := 52) rfl, rfl, by decide, b9_fillings⟩ : MO0 13 83 1 1 9 i9_fillings)
theorem q13_87 : MOk 13 87 (0, 4, 1, 9, i9_filling) := (⟨m_4 (i := 54) rfl, m_4 (i := 55) rfl, m_4 (i := 56) rfl, rfl, by decide, b9_filling⟩ : MO0 13 87 3 1 9 i9_filling)
theorem q13_92 : MOk 13 92 (0, 3, 1, 9, i9_asked) := (⟨m_4 (i := 63) rfl, m_4 (i := 64) rfl, m_4 (i := 65) rfl, rfl, by decide, b9_asked⟩ : MO0 13 92 2 1 9 i9_asked)
theorem q13_96 : MOk 13 96 (0, 3, 1, 9, i9_at) := (⟨m_4 (i := 67) rfl, m_4 (i := 68) rfl, m_4 (i := 69) rfl, rfl, by decide, b9_at⟩ : MO0 13 96 2 1 9 i9_at)
theorem q13_100 : MOk 13 100 (0, 3, 1, 9, i9_found) := (⟨m_4 (i := 71) rfl, m_4 (i := 72) rfl, m_4 (i := 73) rfl, rfl, by decide, b9_found⟩ : MO0 13 100 2 1 9 i9_found)
theorem q13_104 : MOk 13 104 (0, 2, 1, 9, i9_looks) := (⟨m_4 (i := 80) rfl, m_4 (i := 81) rfl, m_4 (i := 82) rfl, rfl, by decide, b9_looks⟩ : MO0 13 104 1 1 9 i9_looks)
theorem q13_108 : MOk 13 108 (0, 3, 1, 9, i9_parts) := (⟨m_4 (i := 99) rfl, m_4 (i := 100) rfl, m_4 (i := 101) rfl, rfl, by decide, b9_parts⟩ : MO0 13 108 2 1 9 i9_parts)
theorem q13_112 : MOk 13 112 (0, 3, 1, 9, i9_shared) := (⟨m_4 (i := 104) rfl, m_4 (i := 105) rfl, m_4 (i := 106) rfl, rfl, by decide, b9_shared⟩ : MO0 13 112 2 1 9 i9_shared)
theorem q13_116 : MOk 13 116 (0, 3, 1, 9, i9_clash) := (⟨m_4 (i := 109) rfl, m_4 (i := 110) rfl, m_4 (i := 111) rfl, rfl, by decide, b9_clash⟩ : MO0 13 116 2 1 9 i9_clash)
theorem q13_120 : MOk 13 120 (0, 2, 1, 9, i9_print) := (⟨m_4 (i := 143) rfl, m_4 (i := 144) rfl, m_4 (i := 145) rfl, rfl, by decide, b9_print⟩ : MO0 13 120 1 1 9 i9_print)
theorem q13_124 : MOk 13 124 (0, 2, 1, 9, i9_printNode) := (⟨m_4 (i := 169) rfl, m_4 (i := 170) rfl, m_4 (i := 171) rfl, rfl, by decide, b9_printNode⟩ : MO0 13 124 1 1 9 i9_printNode)
theorem q13_128 : MOk 13 128 (0, 2, 1, 9, i9_out) := (⟨m_4 (i := 173) rfl, m_4 (i := 174) rfl, m_4 (i := 175) rfl, rfl, by decide, b9_out⟩ : MO0 13 128 1 1 9 i9_out)
theorem q13_132 : MOk 13 132 (0, 1, 1, 9, i9_back) := (⟨m_4 (i := 178) rfl, m_4 (i := 179) rfl, m_4 (i := 180) rfl, rfl, by decide, b9_back⟩ : MO0 13 132 0 1 9 i9_back)
theorem q13_12 : MOk 13 12 (2, 1, 0, 10, i10_init) := (⟨m_4 (i := 185) rfl, m_4 (i := 186) rfl, rfl, by decide, rfl, b10_init⟩ : MO2 13 12 0 0 10 i10_init)
theorem q13_17 : MOk 13 17 (0, 2, 1, 10, i10_kind) := (⟨m_5 (i := 191) rfl, m_5 (i := 192) rfl, m_5 (i := 193) rfl, rfl, by decide, b10_kind⟩ : MO0 13 17 1 1 10 i10_kind)
theorem q13_22 : MOk 13 22 (0, 3, 1, 10, i10_isUnder) := (⟨m_5 (i := 202) rfl, m_5 (i := 203) rfl, m_5 (i := 204) rfl, rfl, by decide, b10_isUnder⟩ : MO0 13 22 2 1 10 i10_isUnder)
theorem q13_27 : MOk 13 27 (0, 4, 1, 10, i10_head) := (⟨m_5 (i := 210) rfl, m_5 (i := 211) rfl, m_5 (i := 212) rfl, rfl, by decide, b10_head⟩ : MO0 13 27 3 1 10 i10_head)
theorem q13_32 : MOk 13 32 (0, 6, 1, 10, i10_feed) := (⟨m_5 (i := 215) rfl, m_5 (i := 216) rfl, m_5 (i := 217) rfl, rfl, by decide, b10_feed⟩ : MO0 13 32 5 1 10 i10_feed)
theorem q13_36 : MOk 13 36 (0, 2, 1, 10, i10_cut) := (⟨m_5 (i := 223) rfl, m_5 (i := 224) rfl, m_5 (i := 225) rfl, rfl, by decide, b10_cut⟩ : MO0 13 36 1 1 10 i10_cut)
theorem q13_57 : MOk 13 57 (0, 1, 1, 10, i10_place) := (⟨m_5 (i := 227) rfl, m_5 (i := 228) rfl, m_5 (i := 229) rfl, rfl, by decide, b10_place⟩ : MO0 13 57 0 1 10 i10_place)
theorem q13_40 : MOk 13 40 (0, 2, 1, 10, i10_pattern) := (⟨m_5 (i := 231) rfl, m_5 (i := 232) rfl, m_5 (i := 233) rfl, rfl, by decide, b10_pattern⟩ : MO0 13 40 1 1 10 i10_pattern)
theorem q13_44 : MOk 13 44 (0, 2, 1, 10, i10_drop) := (⟨m_6 (i := 72) rfl, m_6 (i := 73) rfl, m_6 (i := 74) rfl, rfl, by decide, b10_drop⟩ : MO0 13 44 1 1 10 i10_drop)
theorem q13_49 : MOk 13 49 (0, 1, 1, 10, i10_tree) := (⟨m_6 (i := 81) rfl, m_6 (i := 82) rfl, m_6 (i := 83) rfl, rfl, by decide, b10_tree⟩ : MO0 13 49 0 1 10 i10_tree)
theorem q13_53 : MOk 13 53 (0, 2, 1, 10, i10_change) := (⟨m_6 (i := 89) rfl, m_6 (i := 90) rfl, m_6 (i := 91) rfl, rfl, by decide, b10_change⟩ : MO0 13 53 1 1 10 i10_change)
theorem q13_61 : MOk 13 61 (0, 2, 1, 10, i10_count) := (⟨m_6 (i := 97) rfl, m_6 (i := 98) rfl, m_6 (i := 99) rfl, rfl, by decide, b10_count⟩ : MO0 13 61 1 1 10 i10_count)
theorem q13_65 : MOk 13 65 (0, 3, 1, 10, i10_told) := (⟨m_6 (i := 133) rfl, m_6 (i := 134) rfl, m_6 (i := 135) rfl, rfl, by decide, b10_told⟩ : MO0 13 65 2 1 10 i10_told)
theorem q13_70 : MOk 13 70 (0, 3, 2, 10, i10_node) := (⟨m_6 (i := 141) rfl, m_6 (i := 142) rfl, m_6 (i := 143) rfl, rfl, by decide, b10_node⟩ : MO0 13 70 2 2 10 i10_node)
theorem q13_74 : MOk 13 74 (0, 3, 1, 10, i10_alike) := (⟨m_6 (i := 151) rfl, m_6 (i := 152) rfl, m_6 (i := 153) rfl, rfl, by decide, b10_alike⟩ : MO0 13 74 2 1 10 i10_alike)
theorem q13_78 : MOk 13 78 (0, 1, 1, 10, i10_ask) := (⟨m_6 (i := 159) rfl, m_6 (i := 160) rfl, m_6 (i := 161) rfl, rfl, by decide, b10_ask⟩ : MO0 13 78 0 1 10 i10_ask)
theorem q13_82 : MOk 13 82 (0, 2, 1, 10, i10_fit) := (⟨m_6 (i := 210) rfl, m_6 (i := 211) rfl, m_6 (i := 212) rfl, rfl, by decide, b10_fit⟩ : MO0 13 82 1 1 10 i10_fit)
theorem q13_86 : MOk 13 86 (0, 2, 1, 10, i10_fillings) := (⟨m_6 (i := 218) rfl, m_6 (i := 219) rfl, m_6 (i := 220) rfl, rfl, by decide, b10_fillings⟩ : MO0 13 86 1 1 10 i10_fillings)
theorem q13_91 : MOk 13 91 (0, 4, 1, 10, i10_filling) := (⟨m_6 (i := 222) rfl, m_6 (i := 223) rfl, m_6 (i := 224) rfl, rfl, by decide, b10_filling⟩ : MO0 13 91 3 1 10 i10_filling)
theorem q13_95 : MOk 13 95 (0, 3, 1, 10, i10_asked) := (⟨m_6 (i := 227) rfl, m_6 (i := 228) rfl, m_6 (i := 229) rfl, rfl, by decide, b10_asked⟩ : MO0 13 95 2 1 10 i10_asked)
theorem q13_99 : MOk 13 99 (0, 3, 1, 10, i10_at) := (⟨m_6 (i := 232) rfl, m_6 (i := 233) rfl, m_6 (i := 234) rfl, rfl, by decide, b10_at⟩ : MO0 13 99 2 1 10 i10_at)
theorem q13_103 : MOk 13 103 (0, 3, 1, 10, i10_found) := (⟨m_6 (i := 236) rfl, m_6 (i := 237) rfl, m_6 (i := 238) rfl, rfl, by decide, b10_found⟩ : MO0 13 103 2 1 10 i10_found)
theorem q13_107 : MOk 13 107 (0, 2, 1, 10, i10_looks) := (⟨m_7 (i := 0) rfl, m_7 (i := 1) rfl, m_7 (i := 2) rfl, rfl, by decide, b10_looks⟩ : MO0 13 107 1 1 10 i10_looks)
theorem q13_111 : MOk 13 111 (0, 3, 1, 10, i10_parts) := (⟨m_7 (i := 8) rfl, m_7 (i := 9) rfl, m_7 (i := 10) rfl, rfl, by decide, b10_parts⟩ : MO0 13 111 2 1 10 i10_parts)
theorem q13_115 : MOk 13 115 (0, 3, 1, 10, i10_shared) := (⟨m_7 (i := 12) rfl, m_7 (i := 13) rfl, m_7 (i := 14) rfl, rfl, by decide, b10_shared⟩ : MO0 13 115 2 1 10 i10_shared)
theorem q13_119 : MOk 13 119 (0, 3, 1, 10, i10_clash) := (⟨m_7 (i := 16) rfl, m_7 (i := 17) rfl, m_7 (i := 18) rfl, rfl, by decide, b10_clash⟩ : MO0 13 119 2 1 10 i10_clash)
theorem q13_123 : MOk 13 123 (0, 2, 1, 10, i10_print) := (⟨m_7 (i := 38) rfl, m_7 (i := 39) rfl, m_7 (i := 40) rfl, rfl, by decide, b10_print⟩ : MO0 13 123 1 1 10 i10_print)
theorem q13_127 : MOk 13 127 (0, 2, 1, 10, i10_printNode) := (⟨m_7 (i := 62) rfl, m_7 (i := 63) rfl, m_7 (i := 64) rfl, rfl, by decide, b10_printNode⟩ : MO0 13 127 1 1 10 i10_printNode)
theorem q13_131 : MOk 13 131 (0, 2, 1, 10, i10_out) := (⟨m_7 (i := 66) rfl, m_7 (i := 67) rfl, m_7 (i := 68) rfl, rfl, by decide, b10_out⟩ : MO0 13 131 1 1 10 i10_out)
theorem q13_135 : MOk 13 135 (0, 1, 1, 10, i10_back) := (⟨m_7 (i := 70) rfl, m_7 (i := 71) rfl, m_7 (i := 72) rfl, rfl, by decide, b10_back⟩ : MO0 13 135 0 1 10 i10_back)
theorem fA_0 : AllP (FOk 0) cpf0 := ⟨f0_11, f0_15, f0_19, f0_22, f0_26, trivial⟩
theorem qA_0 : AllP (MOk 0) cpm0 := ⟨q0_33, q0_29, trivial⟩
theorem fA_1 : AllP (FOk 1) cpf1 := ⟨f1_38, f1_47, f1_15, f1_19, f1_23, f1_9, f1_31, f1_35, f1_27, trivial⟩
theorem qA_1 : AllP (MOk 1) cpm1 := ⟨q1_41, trivial⟩
theorem fA_2 : AllP (FOk 2) cpf2 := ⟨f2_11, f2_15, f2_18, f2_21, f2_25, f2_29, f2_49, f2_40, trivial⟩
theorem qA_2 : AllP (MOk 2) cpm2 := ⟨q2_32, q2_45, q2_36, trivial⟩
theorem fA_3 : AllP (FOk 3) cpf3 := ⟨f3_80, f3_83, f3_160, f3_144, f3_166, f3_89, f3_150, f3_113, f3_116, f3_110, f3_41, f3_26, f3_30, f3_11, f3_17, f3_20, f3_23, f3_55, f3_34, f3_37, f3_46, trivial⟩
theorem qA_3 : AllP (MOk 3) cpm3 := ⟨q3_50, q3_59, q3_63, q3_67, q3_106, q3_71, q3_74, q3_86, q3_119, q3_123, q3_130, q3_136, q3_93, q3_97, q3_140, q3_157, q3_163, q3_170, q3_147, q3_100, q3_153, q3_103, trivial⟩
theorem fA_4 : AllP (FOk 4) cpf4 := ⟨f4_66, f4_69, f4_83, f4_79, f4_72, f4_76, f4_101, f4_40, f4_37, f4_86, f4_15, f4_19, f4_23, f4_9, f4_27, trivial⟩
theorem qA_4 : AllP (MOk 4) cpm4 := ⟨q4_31, q4_45, q4_49, q4_59, q4_62, q4_53, q4_89, q4_93, q4_97, q4_104, q4_110, q4_114, q4_118, q4_124, q4_129, q4_132, q4_135, q4_121, trivial⟩
theorem fA_5 : AllP (FOk 5) cpf5 := ⟨f5_15, f5_21, f5_24, f5_27, f5_30, f5_34, f5_38, f5_41, f5_44, f5_47, trivial⟩
theorem qA_5 : AllP (MOk 5) cpm5 := ⟨q5_9, q5_51, q5_55, q5_61, trivial⟩
theorem fA_6 : AllP (FOk 6) cpf6 := ⟨f6_70, f6_63, f6_31, f6_14, f6_20, f6_27, f6_46, f6_43, f6_50, f6_53, f6_56, trivial⟩
theorem qA_6 : AllP (MOk 6) cpm6 := ⟨q6_11, q6_26, q6_35, q6_39, q6_59, q6_66, q6_73, trivial⟩
theorem fA_7 : AllP (FOk 7) cpf7 := ⟨f7_103, f7_61, f7_52, f7_100, f7_140, f7_127, f7_143, f7_116, f7_150, f7_40, f7_9, f7_15, f7_19, f7_27, f7_31, f7_34, f7_65, f7_37, f7_23, trivial⟩
theorem qA_7 : AllP (MOk 7) cpm7 := ⟨q7_45, q7_49, q7_71, q7_57, q7_75, q7_91, q7_96, q7_88, q7_106, q7_109, q7_78, q7_113, q7_120, q7_123, q7_82, q7_130, q7_136, q7_133, q7_147, q7_85, trivial⟩
theorem fA_8 : AllP (FOk 8) cpf8 := ⟨f8_15, f8_21, trivial⟩
theorem qA_8 : AllP (MOk 8) cpm8 := ⟨q8_9, q8_25, q8_29, trivial⟩
theorem fA_9 : AllP (FOk 9) cpf9 := ⟨f9_162, f9_165, f9_112, f9_197, f9_200, f9_204, f9_156, f9_145, f9_228, f9_233, f9_236, f9_239, f9_179, f9_225, f9_138, f9_176, f9_186, f9_189, f9_192, f9_159, f9_283, f9_257, f9_10, f9_21, f9_25, f9_31, f9_35, f9_40, f9_57, f9_66, f9_84, f9_75, f9_48, f9_88, f9_222, f9_216, trivial⟩
theorem qA_9 : AllP (MOk 9) cpm9 := ⟨q9_9, q9_18, q9_30, q9_44, q9_47, q9_54, q9_63, q9_72, q9_81, q9_92, q9_96, q9_100, q9_104, q9_108, q9_116, q9_119, q9_123, q9_127, q9_131, q9_134, q9_142, q9_148, q9_287, q9_291, q9_152, q9_167, q9_170, q9_173, q9_182, q9_207, q9_213, q9_219, q9_242, q9_295, q9_229, q9_230, q9_246, q9_250, q9_253, q9_260, q9_264, q9_267, q9_271, q9_277, q9_280, trivial⟩
theorem fA_10 : AllP (FOk 10) cpf10 := ⟨f10_7, f10_13, f10_196, f10_17, f10_20, f10_23, f10_27, f10_199, f10_31, f10_34, f10_37, f10_41, f10_44, f10_47, f10_50, f10_53, f10_56, f10_236, f10_239, f10_276, f10_212, f10_206, f10_209, f10_59, f10_250, f10_62, f10_65, f10_253, f10_294, f10_68, f10_71, f10_74, f10_77, f10_80, f10_83, f10_86, f10_89, f10_92, f10_95, f10_98, f10_101, f10_302, f10_317, f10_104, f10_107, f10_110, f10_113, f10_309, f10_116, f10_119, f10_122, f10_356, f10_125, f10_128, f10_131, f10_134, f10_137, f10_140, f10_143, f10_146, f10_359, f10_379, f10_382, f10_402, f10_399, f10_149, f10_376, f10_152, f10_155, f10_158, f10_161, f10_164, f10_167, f10_437, f10_170, f10_173, f10_336, f10_176, f10_179, f10_462, trivial⟩
theorem qA_10 : AllP (MOk 10) cpm10 := ⟨q10_186, q10_182, q10_190, q10_202, q10_305, q10_242, q10_297, q10_256, q10_224, q10_263, q10_232, q10_270, q10_283, q10_286, q10_273, q10_219, q10_266, q10_228, q10_246, q10_280, q10_289, q10_291, q10_314, q10_320, q10_323, q10_329, q10_339, q10_326, q10_333, q10_434, q10_431, q10_427, q10_424, q10_342, q10_348, q10_353, q10_414, q10_373, q10_405, q10_408, q10_385, q10_389, q10_362, q10_365, q10_369, q10_393, q10_411, q10_396, q10_417, q10_440, q10_456, q10_450, q10_447, q10_453, q10_472, q10_459, q10_465, q10_468, q10_475, trivial⟩
theorem fA_11 : AllP (FOk 11) cpf11 := ⟨f11_9, f11_35, f11_42, f11_59, f11_56, f11_62, f11_45, f11_66, f11_69, f11_21, trivial⟩
theorem qA_11 : AllP (MOk 11) cpm11 := ⟨q11_15, q11_25, q11_38, q11_49, q11_53, q11_31, trivial⟩
theorem fA_12 : AllP (FOk 12) cpf12 := trivial
theorem qA_12 : AllP (MOk 12) cpm12 := trivial
theorem fA_13 : AllP (FOk 13) cpf13 := trivial
theorem qA_13 : AllP (MOk 13) cpm13 := ⟨q13_9, q13_13, q13_18, q13_23, q13_28, q13_33, q13_37, q13_41, q13_45, q13_50, q13_54, q13_58, q13_62, q13_66, q13_71, q13_75, q13_79, q13_83, q13_87, q13_92, q13_96, q13_100, q13_104, q13_108, q13_112, q13_116, q13_120, q13_124, q13_128, q13_132, q13_12, q13_17, q13_22, q13_27, q13_32, q13_36, q13_57, q13_40, q13_44, q13_49, q13_53, q13_61, q13_65, q13_70, q13_74, q13_78, q13_82, q13_86, q13_91, q13_95, q13_99, q13_103, q13_107, q13_111, q13_115, q13_119, q13_123, q13_127, q13_131, q13_135, trivial⟩
theorem fA {own : Nat} (ho : own < 14) : AllP (FOk own) (cpfL own) := by
  match own, ho with
  | 0, _ => exact fA_0
  | 1, _ => exact fA_1
  | 2, _ => exact fA_2
  | 3, _ => exact fA_3
  | 4, _ => exact fA_4
  | 5, _ => exact fA_5
  | 6, _ => exact fA_6
  | 7, _ => exact fA_7
  | 8, _ => exact fA_8
  | 9, _ => exact fA_9
  | 10, _ => exact fA_10
  | 11, _ => exact fA_11
  | 12, _ => exact fA_12
  | 13, _ => exact fA_13
theorem qA {own : Nat} (ho : own < 14) : AllP (MOk own) (cpmL own) := by
  match own, ho with
  | 0, _ => exact qA_0
  | 1, _ => exact qA_1
  | 2, _ => exact qA_2
  | 3, _ => exact qA_3
  | 4, _ => exact qA_4
  | 5, _ => exact qA_5
  | 6, _ => exact qA_6
  | 7, _ => exact qA_7
  | 8, _ => exact qA_8
  | 9, _ => exact qA_9
  | 10, _ => exact qA_10
  | 11, _ => exact qA_11
  | 12, _ => exact qA_12
  | 13, _ => exact qA_13
theorem cpf_ok {own idx : Nat} {e : Nat × Int × Nat × Nat} (ho : own < 14) (h : cpf own idx = some e) : FOk own idx e := (fA ho).get h
theorem cpm_ok {own idx : Nat} {e : Nat × Nat × Nat × Nat × MI} (ho : own < 14) (h : cpm own idx = some e) : MOk own idx e := (qA ho).get h
def COk (k t : Nat) : Prop := t < 11 ∧ Cond.classLink (cnm (k / 1000)) (k % 1000) (cnm t) ∈ lw_tbl ∧ Cond.instantiable (cnm t) (nf t) ∈ lw_tbl ∧ Cond.initialized (cnm t) ∈ lw_tbl
theorem cA_ : AllP COk cpcL := ⟨⟨by decide, m_1 (i := 161) rfl, m_1 (i := 74) rfl, m_1 (i := 5) rfl⟩, ⟨by decide, m_1 (i := 163) rfl, m_1 (i := 164) rfl, m_1 (i := 7) rfl⟩, ⟨by decide, m_1 (i := 23) rfl, m_1 (i := 24) rfl, m_1 (i := 2) rfl⟩, ⟨by decide, m_1 (i := 53) rfl, m_1 (i := 54) rfl, m_1 (i := 3) rfl⟩, ⟨by decide, m_1 (i := 73) rfl, m_1 (i := 74) rfl, m_1 (i := 5) rfl⟩, ⟨by decide, m_1 (i := 154) rfl, m_1 (i := 156) rfl, m_1 (i := 6) rfl⟩, ⟨by decide, m_1 (i := 228) rfl, m_1 (i := 164) rfl, m_1 (i := 7) rfl⟩, ⟨by decide, m_1 (i := 230) rfl, m_1 (i := 231) rfl, m_1 (i := 8) rfl⟩, ⟨by decide, m_2 (i := 25) rfl, m_2 (i := 26) rfl, m_1 (i := 9) rfl⟩, ⟨by decide, m_2 (i := 62) rfl, m_2 (i := 63) rfl, m_1 (i := 10) rfl⟩, ⟨by decide, m_2 (i := 91) rfl, m_2 (i := 92) rfl, m_1 (i := 11) rfl⟩, ⟨by decide, m_1 (i := 15) rfl, m_1 (i := 16) rfl, m_1 (i := 1) rfl⟩, ⟨by decide, m_4 (i := 183) rfl, m_4 (i := 184) rfl, m_1 (i := 12) rfl⟩, trivial⟩
def LOk (k : Nat) (v : Int) : Prop := inL v ∧ Cond.constantLong (cnm (k / 1000)) (k % 1000) (Int64.ofInt v) ∈ lw_tbl
theorem lA_ : AllP LOk cplL := ⟨⟨⟨by decide, by decide⟩, m_3 (i := 33) rfl⟩, ⟨⟨by decide, by decide⟩, m_4 (i := 162) rfl⟩, ⟨⟨by decide, by decide⟩, m_3 (i := 171) rfl⟩, ⟨⟨by decide, by decide⟩, m_3 (i := 176) rfl⟩, ⟨⟨by decide, by decide⟩, m_5 (i := 214) rfl⟩, ⟨⟨by decide, by decide⟩, m_5 (i := 235) rfl⟩, ⟨⟨by decide, by decide⟩, m_6 (i := 16) rfl⟩, ⟨⟨by decide, by decide⟩, m_6 (i := 17) rfl⟩, ⟨⟨by decide, by decide⟩, m_6 (i := 45) rfl⟩, ⟨⟨by decide, by decide⟩, m_6 (i := 46) rfl⟩, ⟨⟨by decide, by decide⟩, m_6 (i := 59) rfl⟩, ⟨⟨by decide, by decide⟩, m_6 (i := 80) rfl⟩, ⟨⟨by decide, by decide⟩, m_6 (i := 145) rfl⟩, ⟨⟨by decide, by decide⟩, m_6 (i := 150) rfl⟩, ⟨⟨by decide, by decide⟩, m_6 (i := 226) rfl⟩, ⟨⟨by decide, by decide⟩, m_6 (i := 231) rfl⟩, ⟨⟨by decide, by decide⟩, m_7 (i := 28) rfl⟩, ⟨⟨by decide, by decide⟩, m_7 (i := 29) rfl⟩, trivial⟩
def GOk (k : Nat) (v : Int) : Prop := (v = 2 ∧ Cond.fieldLink (cnm (k / 1000)) (k % 1000) "RuleNet$Matcher" "ORDER_COUNTS" "[I" ∈ lw_tbl) ∨ (v = 3 ∧ Cond.fieldLink (cnm (k / 1000)) (k % 1000) "RuleNet$Matcher" "ORDERS" "[I" ∈ lw_tbl)
theorem gA_ : AllP GOk cpsL := ⟨.inl ⟨rfl, m_4 (i := 0) rfl⟩, .inr ⟨rfl, m_4 (i := 6) rfl⟩, trivial⟩
def OOk (k _v : Nat) : Prop := Cond.methodLink (cnm (k / 1000)) (k % 1000) Lib.objectInit ∈ lw_tbl
theorem oA_ : AllP OOk cpoL := ⟨m_1 (i := 168) rfl, m_2 (i := 67) rfl, m_1 (i := 28) rfl, m_2 (i := 30) rfl, m_2 (i := 96) rfl, m_1 (i := 78) rfl, m_1 (i := 160) rfl, m_1 (i := 235) rfl, m_1 (i := 58) rfl, m_1 (i := 20) rfl, m_4 (i := 188) rfl, trivial⟩
def AOk (k _v : Nat) : Prop := Cond.methodLink (cnm (k / 1000)) (k % 1000) arraycopyName ∈ lw_tbl
theorem aA_ : AllP AOk cpaL := ⟨m_3 (i := 226) rfl, trivial⟩
theorem y0_0 : u_lay (cnm 0) (fT 0) 0 ∈ lw_tbl := m_1 (i := 182) rfl
theorem y0_1 : u_lay (cnm 0) (fT 0) 1 ∈ lw_tbl := m_1 (i := 184) rfl
theorem y0_2 : u_lay (cnm 0) (fT 0) 2 ∈ lw_tbl := m_1 (i := 186) rfl
theorem y0_3 : u_lay (cnm 0) (fT 0) 3 ∈ lw_tbl := m_1 (i := 188) rfl
theorem y0_4 : u_lay (cnm 0) (fT 0) 4 ∈ lw_tbl := m_1 (i := 190) rfl
theorem yA_0 : AllN (fun k => u_lay (cnm 0) (fT 0) k ∈ lw_tbl) 5 := ⟨⟨⟨⟨⟨trivial, y0_0⟩, y0_1⟩, y0_2⟩, y0_3⟩, y0_4⟩
theorem in_0 : ∀ w ∈ u_ws (cnm 0) (fT 0) (nf 0), w ∈ lw_tbl := by
  intro w hw
  obtain ⟨k, hk, rfl⟩ := List.mem_map.mp hw
  exact yA_0.get (List.mem_range.mp hk)
theorem y1_0 : u_lay (cnm 1) (fT 1) 0 ∈ lw_tbl := m_2 (i := 76) rfl
theorem y1_1 : u_lay (cnm 1) (fT 1) 1 ∈ lw_tbl := m_2 (i := 78) rfl
theorem y1_2 : u_lay (cnm 1) (fT 1) 2 ∈ lw_tbl := m_2 (i := 80) rfl
theorem y1_3 : u_lay (cnm 1) (fT 1) 3 ∈ lw_tbl := m_2 (i := 82) rfl
theorem y1_4 : u_lay (cnm 1) (fT 1) 4 ∈ lw_tbl := m_2 (i := 84) rfl
theorem y1_5 : u_lay (cnm 1) (fT 1) 5 ∈ lw_tbl := m_2 (i := 86) rfl
theorem y1_6 : u_lay (cnm 1) (fT 1) 6 ∈ lw_tbl := m_2 (i := 88) rfl
theorem yA_1 : AllN (fun k => u_lay (cnm 1) (fT 1) k ∈ lw_tbl) 7 := ⟨⟨⟨⟨⟨⟨⟨trivial, y1_0⟩, y1_1⟩, y1_2⟩, y1_3⟩, y1_4⟩, y1_5⟩, y1_6⟩
theorem in_1 : ∀ w ∈ u_ws (cnm 1) (fT 1) (nf 1), w ∈ lw_tbl := by
  intro w hw
  obtain ⟨k, hk, rfl⟩ := List.mem_map.mp hw
  exact yA_1.get (List.mem_range.mp hk)
theorem y2_0 : u_lay (cnm 2) (fT 2) 0 ∈ lw_tbl := m_1 (i := 38) rfl
theorem y2_1 : u_lay (cnm 2) (fT 2) 1 ∈ lw_tbl := m_1 (i := 40) rfl
theorem y2_2 : u_lay (cnm 2) (fT 2) 2 ∈ lw_tbl := m_1 (i := 42) rfl
theorem y2_3 : u_lay (cnm 2) (fT 2) 3 ∈ lw_tbl := m_1 (i := 44) rfl
theorem y2_4 : u_lay (cnm 2) (fT 2) 4 ∈ lw_tbl := m_1 (i := 46) rfl
theorem y2_5 : u_lay (cnm 2) (fT 2) 5 ∈ lw_tbl := m_1 (i := 48) rfl
theorem yA_2 : AllN (fun k => u_lay (cnm 2) (fT 2) k ∈ lw_tbl) 6 := ⟨⟨⟨⟨⟨⟨trivial, y2_0⟩, y2_1⟩, y2_2⟩, y2_3⟩, y2_4⟩, y2_5⟩
theorem in_2 : ∀ w ∈ u_ws (cnm 2) (fT 2) (nf 2), w ∈ lw_tbl := by
  intro w hw
  obtain ⟨k, hk, rfl⟩ := List.mem_map.mp hw
  exact yA_2.get (List.mem_range.mp hk)
theorem y3_0 : u_lay (cnm 3) (fT 3) 0 ∈ lw_tbl := m_2 (i := 41) rfl
theorem y3_1 : u_lay (cnm 3) (fT 3) 1 ∈ lw_tbl := m_2 (i := 43) rfl
theorem y3_2 : u_lay (cnm 3) (fT 3) 2 ∈ lw_tbl := m_2 (i := 45) rfl
theorem y3_3 : u_lay (cnm 3) (fT 3) 3 ∈ lw_tbl := m_2 (i := 47) rfl
theorem y3_4 : u_lay (cnm 3) (fT 3) 4 ∈ lw_tbl := m_2 (i := 49) rfl
theorem y3_5 : u_lay (cnm 3) (fT 3) 5 ∈ lw_tbl := m_2 (i := 51) rfl
theorem y3_6 : u_lay (cnm 3) (fT 3) 6 ∈ lw_tbl := m_2 (i := 53) rfl
theorem y3_7 : u_lay (cnm 3) (fT 3) 7 ∈ lw_tbl := m_2 (i := 55) rfl
theorem y3_8 : u_lay (cnm 3) (fT 3) 8 ∈ lw_tbl := m_2 (i := 57) rfl
theorem y3_9 : u_lay (cnm 3) (fT 3) 9 ∈ lw_tbl := m_2 (i := 59) rfl
theorem yA_3 : AllN (fun k => u_lay (cnm 3) (fT 3) k ∈ lw_tbl) 10 := ⟨⟨⟨⟨⟨⟨⟨⟨⟨⟨trivial, y3_0⟩, y3_1⟩, y3_2⟩, y3_3⟩, y3_4⟩, y3_5⟩, y3_6⟩, y3_7⟩, y3_8⟩, y3_9⟩
theorem in_3 : ∀ w ∈ u_ws (cnm 3) (fT 3) (nf 3), w ∈ lw_tbl := by
  intro w hw
  obtain ⟨k, hk, rfl⟩ := List.mem_map.mp hw
  exact yA_3.get (List.mem_range.mp hk)
theorem y4_0 : u_lay (cnm 4) (fT 4) 0 ∈ lw_tbl := m_2 (i := 103) rfl
theorem y4_1 : u_lay (cnm 4) (fT 4) 1 ∈ lw_tbl := m_2 (i := 105) rfl
theorem y4_2 : u_lay (cnm 4) (fT 4) 2 ∈ lw_tbl := m_2 (i := 107) rfl
theorem y4_3 : u_lay (cnm 4) (fT 4) 3 ∈ lw_tbl := m_2 (i := 109) rfl
theorem y4_4 : u_lay (cnm 4) (fT 4) 4 ∈ lw_tbl := m_2 (i := 111) rfl
theorem yA_4 : AllN (fun k => u_lay (cnm 4) (fT 4) k ∈ lw_tbl) 5 := ⟨⟨⟨⟨⟨trivial, y4_0⟩, y4_1⟩, y4_2⟩, y4_3⟩, y4_4⟩
theorem in_4 : ∀ w ∈ u_ws (cnm 4) (fT 4) (nf 4), w ∈ lw_tbl := by
  intro w hw
  obtain ⟨k, hk, rfl⟩ := List.mem_map.mp hw
  exact yA_4.get (List.mem_range.mp hk)
theorem y5_0 : u_lay (cnm 5) (fT 5) 0 ∈ lw_tbl := m_1 (i := 132) rfl
theorem y5_1 : u_lay (cnm 5) (fT 5) 1 ∈ lw_tbl := m_1 (i := 134) rfl
theorem y5_2 : u_lay (cnm 5) (fT 5) 2 ∈ lw_tbl := m_1 (i := 136) rfl
theorem y5_3 : u_lay (cnm 5) (fT 5) 3 ∈ lw_tbl := m_1 (i := 138) rfl
theorem y5_4 : u_lay (cnm 5) (fT 5) 4 ∈ lw_tbl := m_1 (i := 140) rfl
theorem y5_5 : u_lay (cnm 5) (fT 5) 5 ∈ lw_tbl := m_1 (i := 142) rfl
theorem y5_6 : u_lay (cnm 5) (fT 5) 6 ∈ lw_tbl := m_1 (i := 144) rfl
theorem y5_7 : u_lay (cnm 5) (fT 5) 7 ∈ lw_tbl := m_1 (i := 146) rfl
theorem y5_8 : u_lay (cnm 5) (fT 5) 8 ∈ lw_tbl := m_1 (i := 148) rfl
theorem y5_9 : u_lay (cnm 5) (fT 5) 9 ∈ lw_tbl := m_1 (i := 150) rfl
theorem yA_5 : AllN (fun k => u_lay (cnm 5) (fT 5) k ∈ lw_tbl) 10 := ⟨⟨⟨⟨⟨⟨⟨⟨⟨⟨trivial, y5_0⟩, y5_1⟩, y5_2⟩, y5_3⟩, y5_4⟩, y5_5⟩, y5_6⟩, y5_7⟩, y5_8⟩, y5_9⟩
theorem in_5 : ∀ w ∈ u_ws (cnm 5) (fT 5) (nf 5), w ∈ lw_tbl := by
  intro w hw
  obtain ⟨k, hk, rfl⟩ := List.mem_map.mp hw
  exact yA_5.get (List.mem_range.mp hk)
theorem y6_0 : u_lay (cnm 6) (fT 6) 0 ∈ lw_tbl := m_1 (i := 211) rfl
theorem y6_1 : u_lay (cnm 6) (fT 6) 1 ∈ lw_tbl := m_1 (i := 213) rfl
theorem y6_2 : u_lay (cnm 6) (fT 6) 2 ∈ lw_tbl := m_1 (i := 215) rfl
theorem y6_3 : u_lay (cnm 6) (fT 6) 3 ∈ lw_tbl := m_1 (i := 217) rfl
theorem y6_4 : u_lay (cnm 6) (fT 6) 4 ∈ lw_tbl := m_1 (i := 219) rfl
theorem y6_5 : u_lay (cnm 6) (fT 6) 5 ∈ lw_tbl := m_1 (i := 221) rfl
theorem y6_6 : u_lay (cnm 6) (fT 6) 6 ∈ lw_tbl := m_1 (i := 223) rfl
theorem y6_7 : u_lay (cnm 6) (fT 6) 7 ∈ lw_tbl := m_1 (i := 225) rfl
theorem yA_6 : AllN (fun k => u_lay (cnm 6) (fT 6) k ∈ lw_tbl) 8 := ⟨⟨⟨⟨⟨⟨⟨⟨trivial, y6_0⟩, y6_1⟩, y6_2⟩, y6_3⟩, y6_4⟩, y6_5⟩, y6_6⟩, y6_7⟩
theorem in_6 : ∀ w ∈ u_ws (cnm 6) (fT 6) (nf 6), w ∈ lw_tbl := by
  intro w hw
  obtain ⟨k, hk, rfl⟩ := List.mem_map.mp hw
  exact yA_6.get (List.mem_range.mp hk)
theorem y7_0 : u_lay (cnm 7) (fT 7) 0 ∈ lw_tbl := m_2 (i := 6) rfl
theorem y7_1 : u_lay (cnm 7) (fT 7) 1 ∈ lw_tbl := m_2 (i := 8) rfl
theorem y7_2 : u_lay (cnm 7) (fT 7) 2 ∈ lw_tbl := m_2 (i := 10) rfl
theorem y7_3 : u_lay (cnm 7) (fT 7) 3 ∈ lw_tbl := m_2 (i := 12) rfl
theorem y7_4 : u_lay (cnm 7) (fT 7) 4 ∈ lw_tbl := m_2 (i := 14) rfl
theorem y7_5 : u_lay (cnm 7) (fT 7) 5 ∈ lw_tbl := m_2 (i := 16) rfl
theorem y7_6 : u_lay (cnm 7) (fT 7) 6 ∈ lw_tbl := m_2 (i := 18) rfl
theorem y7_7 : u_lay (cnm 7) (fT 7) 7 ∈ lw_tbl := m_2 (i := 20) rfl
theorem y7_8 : u_lay (cnm 7) (fT 7) 8 ∈ lw_tbl := m_2 (i := 22) rfl
theorem yA_7 : AllN (fun k => u_lay (cnm 7) (fT 7) k ∈ lw_tbl) 9 := ⟨⟨⟨⟨⟨⟨⟨⟨⟨trivial, y7_0⟩, y7_1⟩, y7_2⟩, y7_3⟩, y7_4⟩, y7_5⟩, y7_6⟩, y7_7⟩, y7_8⟩
theorem in_7 : ∀ w ∈ u_ws (cnm 7) (fT 7) (nf 7), w ∈ lw_tbl := by
  intro w hw
  obtain ⟨k, hk, rfl⟩ := List.mem_map.mp hw
  exact yA_7.get (List.mem_range.mp hk)
theorem y8_0 : u_lay (cnm 8) (fT 8) 0 ∈ lw_tbl := m_1 (i := 68) rfl
theorem y8_1 : u_lay (cnm 8) (fT 8) 1 ∈ lw_tbl := m_1 (i := 70) rfl
theorem yA_8 : AllN (fun k => u_lay (cnm 8) (fT 8) k ∈ lw_tbl) 2 := ⟨⟨trivial, y8_0⟩, y8_1⟩
theorem in_8 : ∀ w ∈ u_ws (cnm 8) (fT 8) (nf 8), w ∈ lw_tbl := by
  intro w hw
  obtain ⟨k, hk, rfl⟩ := List.mem_map.mp hw
  exact yA_8.get (List.mem_range.mp hk)
theorem y9_0 : u_lay (cnm 9) (fT 9) 0 ∈ lw_tbl := m_2 (i := 128) rfl
theorem y9_1 : u_lay (cnm 9) (fT 9) 1 ∈ lw_tbl := m_2 (i := 130) rfl
theorem y9_2 : u_lay (cnm 9) (fT 9) 2 ∈ lw_tbl := m_2 (i := 132) rfl
theorem y9_3 : u_lay (cnm 9) (fT 9) 3 ∈ lw_tbl := m_2 (i := 134) rfl
theorem y9_4 : u_lay (cnm 9) (fT 9) 4 ∈ lw_tbl := m_2 (i := 136) rfl
theorem y9_5 : u_lay (cnm 9) (fT 9) 5 ∈ lw_tbl := m_2 (i := 138) rfl
theorem y9_6 : u_lay (cnm 9) (fT 9) 6 ∈ lw_tbl := m_2 (i := 140) rfl
theorem y9_7 : u_lay (cnm 9) (fT 9) 7 ∈ lw_tbl := m_2 (i := 142) rfl
theorem y9_8 : u_lay (cnm 9) (fT 9) 8 ∈ lw_tbl := m_2 (i := 144) rfl
theorem y9_9 : u_lay (cnm 9) (fT 9) 9 ∈ lw_tbl := m_2 (i := 146) rfl
theorem y9_10 : u_lay (cnm 9) (fT 9) 10 ∈ lw_tbl := m_2 (i := 148) rfl
theorem y9_11 : u_lay (cnm 9) (fT 9) 11 ∈ lw_tbl := m_2 (i := 150) rfl
theorem y9_12 : u_lay (cnm 9) (fT 9) 12 ∈ lw_tbl := m_2 (i := 152) rfl
theorem y9_13 : u_lay (cnm 9) (fT 9) 13 ∈ lw_tbl := m_2 (i := 154) rfl
theorem yA_9 : AllN (fun k => u_lay (cnm 9) (fT 9) k ∈ lw_tbl) 14 := ⟨⟨⟨⟨⟨⟨⟨⟨⟨⟨⟨⟨⟨⟨trivial, y9_0⟩, y9_1⟩, y9_2⟩, y9_3⟩, y9_4⟩, y9_5⟩, y9_6⟩, y9_7⟩, y9_8⟩, y9_9⟩, y9_10⟩, y9_11⟩, y9_12⟩, y9_13⟩
theorem in_9 : ∀ w ∈ u_ws (cnm 9) (fT 9) (nf 9), w ∈ lw_tbl := by
  intro w hw
  obtain ⟨k, hk, rfl⟩ := List.mem_map.mp hw
  exact yA_9.get (List.mem_range.mp hk)
theorem y10_0 : u_lay (cnm 10) (fT 10) 0 ∈ lw_tbl := m_5 (i := 29) rfl
theorem y10_1 : u_lay (cnm 10) (fT 10) 1 ∈ lw_tbl := m_5 (i := 31) rfl
theorem y10_2 : u_lay (cnm 10) (fT 10) 2 ∈ lw_tbl := m_5 (i := 33) rfl
theorem y10_3 : u_lay (cnm 10) (fT 10) 3 ∈ lw_tbl := m_5 (i := 35) rfl
theorem y10_4 : u_lay (cnm 10) (fT 10) 4 ∈ lw_tbl := m_5 (i := 37) rfl
theorem y10_5 : u_lay (cnm 10) (fT 10) 5 ∈ lw_tbl := m_5 (i := 39) rfl
theorem y10_6 : u_lay (cnm 10) (fT 10) 6 ∈ lw_tbl := m_5 (i := 41) rfl
theorem y10_7 : u_lay (cnm 10) (fT 10) 7 ∈ lw_tbl := m_5 (i := 43) rfl
theorem y10_8 : u_lay (cnm 10) (fT 10) 8 ∈ lw_tbl := m_5 (i := 45) rfl
theorem y10_9 : u_lay (cnm 10) (fT 10) 9 ∈ lw_tbl := m_5 (i := 47) rfl
theorem y10_10 : u_lay (cnm 10) (fT 10) 10 ∈ lw_tbl := m_5 (i := 49) rfl
theorem y10_11 : u_lay (cnm 10) (fT 10) 11 ∈ lw_tbl := m_5 (i := 51) rfl
theorem y10_12 : u_lay (cnm 10) (fT 10) 12 ∈ lw_tbl := m_5 (i := 53) rfl
theorem y10_13 : u_lay (cnm 10) (fT 10) 13 ∈ lw_tbl := m_5 (i := 55) rfl
theorem y10_14 : u_lay (cnm 10) (fT 10) 14 ∈ lw_tbl := m_5 (i := 57) rfl
theorem y10_15 : u_lay (cnm 10) (fT 10) 15 ∈ lw_tbl := m_5 (i := 59) rfl
theorem y10_16 : u_lay (cnm 10) (fT 10) 16 ∈ lw_tbl := m_5 (i := 61) rfl
theorem y10_17 : u_lay (cnm 10) (fT 10) 17 ∈ lw_tbl := m_5 (i := 63) rfl
theorem y10_18 : u_lay (cnm 10) (fT 10) 18 ∈ lw_tbl := m_5 (i := 65) rfl
theorem y10_19 : u_lay (cnm 10) (fT 10) 19 ∈ lw_tbl := m_5 (i := 67) rfl
theorem y10_20 : u_lay (cnm 10) (fT 10) 20 ∈ lw_tbl := m_5 (i := 69) rfl
theorem y10_21 : u_lay (cnm 10) (fT 10) 21 ∈ lw_tbl := m_5 (i := 71) rfl
theorem y10_22 : u_lay (cnm 10) (fT 10) 22 ∈ lw_tbl := m_5 (i := 73) rfl
theorem y10_23 : u_lay (cnm 10) (fT 10) 23 ∈ lw_tbl := m_5 (i := 75) rfl
theorem y10_24 : u_lay (cnm 10) (fT 10) 24 ∈ lw_tbl := m_5 (i := 77) rfl
theorem y10_25 : u_lay (cnm 10) (fT 10) 25 ∈ lw_tbl := m_5 (i := 79) rfl
theorem y10_26 : u_lay (cnm 10) (fT 10) 26 ∈ lw_tbl := m_5 (i := 81) rfl
theorem y10_27 : u_lay (cnm 10) (fT 10) 27 ∈ lw_tbl := m_5 (i := 83) rfl
theorem y10_28 : u_lay (cnm 10) (fT 10) 28 ∈ lw_tbl := m_5 (i := 85) rfl
theorem y10_29 : u_lay (cnm 10) (fT 10) 29 ∈ lw_tbl := m_5 (i := 87) rfl
theorem y10_30 : u_lay (cnm 10) (fT 10) 30 ∈ lw_tbl := m_5 (i := 89) rfl
theorem y10_31 : u_lay (cnm 10) (fT 10) 31 ∈ lw_tbl := m_5 (i := 91) rfl
theorem y10_32 : u_lay (cnm 10) (fT 10) 32 ∈ lw_tbl := m_5 (i := 93) rfl
theorem y10_33 : u_lay (cnm 10) (fT 10) 33 ∈ lw_tbl := m_5 (i := 95) rfl
theorem y10_34 : u_lay (cnm 10) (fT 10) 34 ∈ lw_tbl := m_5 (i := 97) rfl
theorem y10_35 : u_lay (cnm 10) (fT 10) 35 ∈ lw_tbl := m_5 (i := 99) rfl
theorem y10_36 : u_lay (cnm 10) (fT 10) 36 ∈ lw_tbl := m_5 (i := 101) rfl
theorem y10_37 : u_lay (cnm 10) (fT 10) 37 ∈ lw_tbl := m_5 (i := 103) rfl
theorem y10_38 : u_lay (cnm 10) (fT 10) 38 ∈ lw_tbl := m_5 (i := 105) rfl
theorem y10_39 : u_lay (cnm 10) (fT 10) 39 ∈ lw_tbl := m_5 (i := 107) rfl
theorem y10_40 : u_lay (cnm 10) (fT 10) 40 ∈ lw_tbl := m_5 (i := 109) rfl
theorem y10_41 : u_lay (cnm 10) (fT 10) 41 ∈ lw_tbl := m_5 (i := 111) rfl
theorem y10_42 : u_lay (cnm 10) (fT 10) 42 ∈ lw_tbl := m_5 (i := 113) rfl
theorem y10_43 : u_lay (cnm 10) (fT 10) 43 ∈ lw_tbl := m_5 (i := 115) rfl
theorem y10_44 : u_lay (cnm 10) (fT 10) 44 ∈ lw_tbl := m_5 (i := 117) rfl
theorem y10_45 : u_lay (cnm 10) (fT 10) 45 ∈ lw_tbl := m_5 (i := 119) rfl
theorem y10_46 : u_lay (cnm 10) (fT 10) 46 ∈ lw_tbl := m_5 (i := 121) rfl
theorem y10_47 : u_lay (cnm 10) (fT 10) 47 ∈ lw_tbl := m_5 (i := 123) rfl
theorem y10_48 : u_lay (cnm 10) (fT 10) 48 ∈ lw_tbl := m_5 (i := 125) rfl
theorem y10_49 : u_lay (cnm 10) (fT 10) 49 ∈ lw_tbl := m_5 (i := 127) rfl
theorem y10_50 : u_lay (cnm 10) (fT 10) 50 ∈ lw_tbl := m_5 (i := 129) rfl
theorem y10_51 : u_lay (cnm 10) (fT 10) 51 ∈ lw_tbl := m_5 (i := 131) rfl
theorem y10_52 : u_lay (cnm 10) (fT 10) 52 ∈ lw_tbl := m_5 (i := 133) rfl
theorem y10_53 : u_lay (cnm 10) (fT 10) 53 ∈ lw_tbl := m_5 (i := 135) rfl
theorem y10_54 : u_lay (cnm 10) (fT 10) 54 ∈ lw_tbl := m_5 (i := 137) rfl
theorem y10_55 : u_lay (cnm 10) (fT 10) 55 ∈ lw_tbl := m_5 (i := 139) rfl
theorem y10_56 : u_lay (cnm 10) (fT 10) 56 ∈ lw_tbl := m_5 (i := 141) rfl
theorem y10_57 : u_lay (cnm 10) (fT 10) 57 ∈ lw_tbl := m_5 (i := 143) rfl
theorem y10_58 : u_lay (cnm 10) (fT 10) 58 ∈ lw_tbl := m_5 (i := 145) rfl
theorem y10_59 : u_lay (cnm 10) (fT 10) 59 ∈ lw_tbl := m_5 (i := 147) rfl
theorem y10_60 : u_lay (cnm 10) (fT 10) 60 ∈ lw_tbl := m_5 (i := 149) rfl
theorem y10_61 : u_lay (cnm 10) (fT 10) 61 ∈ lw_tbl := m_5 (i := 151) rfl
theorem y10_62 : u_lay (cnm 10) (fT 10) 62 ∈ lw_tbl := m_5 (i := 153) rfl
theorem y10_63 : u_lay (cnm 10) (fT 10) 63 ∈ lw_tbl := m_5 (i := 155) rfl
theorem y10_64 : u_lay (cnm 10) (fT 10) 64 ∈ lw_tbl := m_5 (i := 157) rfl
theorem y10_65 : u_lay (cnm 10) (fT 10) 65 ∈ lw_tbl := m_5 (i := 159) rfl
theorem y10_66 : u_lay (cnm 10) (fT 10) 66 ∈ lw_tbl := m_5 (i := 161) rfl
theorem y10_67 : u_lay (cnm 10) (fT 10) 67 ∈ lw_tbl := m_5 (i := 163) rfl
theorem y10_68 : u_lay (cnm 10) (fT 10) 68 ∈ lw_tbl := m_5 (i := 165) rfl
theorem y10_69 : u_lay (cnm 10) (fT 10) 69 ∈ lw_tbl := m_5 (i := 167) rfl
theorem y10_70 : u_lay (cnm 10) (fT 10) 70 ∈ lw_tbl := m_5 (i := 169) rfl
theorem y10_71 : u_lay (cnm 10) (fT 10) 71 ∈ lw_tbl := m_5 (i := 171) rfl
theorem y10_72 : u_lay (cnm 10) (fT 10) 72 ∈ lw_tbl := m_5 (i := 173) rfl
theorem y10_73 : u_lay (cnm 10) (fT 10) 73 ∈ lw_tbl := m_5 (i := 175) rfl
theorem y10_74 : u_lay (cnm 10) (fT 10) 74 ∈ lw_tbl := m_5 (i := 177) rfl
theorem y10_75 : u_lay (cnm 10) (fT 10) 75 ∈ lw_tbl := m_5 (i := 179) rfl
theorem y10_76 : u_lay (cnm 10) (fT 10) 76 ∈ lw_tbl := m_5 (i := 181) rfl
theorem y10_77 : u_lay (cnm 10) (fT 10) 77 ∈ lw_tbl := m_5 (i := 183) rfl
theorem y10_78 : u_lay (cnm 10) (fT 10) 78 ∈ lw_tbl := m_5 (i := 185) rfl
theorem y10_79 : u_lay (cnm 10) (fT 10) 79 ∈ lw_tbl := m_5 (i := 187) rfl
theorem yA_10 : AllN (fun k => u_lay (cnm 10) (fT 10) k ∈ lw_tbl) 80 := ⟨⟨⟨⟨⟨⟨⟨⟨⟨⟨⟨⟨⟨⟨⟨⟨⟨⟨⟨⟨⟨⟨⟨⟨⟨⟨⟨⟨⟨⟨⟨⟨⟨⟨⟨⟨⟨⟨⟨⟨⟨⟨⟨⟨⟨⟨⟨⟨⟨⟨⟨⟨⟨⟨⟨⟨⟨⟨⟨⟨⟨⟨⟨⟨⟨⟨⟨⟨⟨⟨⟨⟨⟨⟨⟨⟨⟨⟨⟨⟨trivial, y10_0⟩, y10_1⟩, y10_2⟩, y10_3⟩, y10_4⟩, y10_5⟩, y10_6⟩, y10_7⟩, y10_8⟩, y10_9⟩, y10_10⟩, y10_11⟩, y10_12⟩, y10_13⟩, y10_14⟩, y10_15⟩, y10_16⟩, y10_17⟩, y10_18⟩, y10_19⟩, y10_20⟩, y10_21⟩, y10_22⟩, y10_23⟩, y10_24⟩, y10_25⟩, y10_26⟩, y10_27⟩, y10_28⟩, y10_29⟩, y10_30⟩, y10_31⟩, y10_32⟩, y10_33⟩, y10_34⟩, y10_35⟩, y10_36⟩, y10_37⟩, y10_38⟩, y10_39⟩, y10_40⟩, y10_41⟩, y10_42⟩, y10_43⟩, y10_44⟩, y10_45⟩, y10_46⟩, y10_47⟩, y10_48⟩, y10_49⟩, y10_50⟩, y10_51⟩, y10_52⟩, y10_53⟩, y10_54⟩, y10_55⟩, y10_56⟩, y10_57⟩, y10_58⟩, y10_59⟩, y10_60⟩, y10_61⟩, y10_62⟩, y10_63⟩, y10_64⟩, y10_65⟩, y10_66⟩, y10_67⟩, y10_68⟩, y10_69⟩, y10_70⟩, y10_71⟩, y10_72⟩, y10_73⟩, y10_74⟩, y10_75⟩, y10_76⟩, y10_77⟩, y10_78⟩, y10_79⟩
theorem in_10 : ∀ w ∈ u_ws (cnm 10) (fT 10) (nf 10), w ∈ lw_tbl := by
  intro w hw
  obtain ⟨k, hk, rfl⟩ := List.mem_map.mp hw
  exact yA_10.get (List.mem_range.mp hk)
theorem in_all {t : Nat} (ht : t < 11) : ∀ w ∈ u_ws (cnm t) (fT t) (nf t), w ∈ lw_tbl := by
  match t, ht with
  | 0, _ => exact in_0
  | 1, _ => exact in_1
  | 2, _ => exact in_2
  | 3, _ => exact in_3
  | 4, _ => exact in_4
  | 5, _ => exact in_5
  | 6, _ => exact in_6
  | 7, _ => exact in_7
  | 8, _ => exact in_8
  | 9, _ => exact in_9
  | 10, _ => exact in_10
/-- of a field: its type as parsed, its class, its kind as its type says, final where the kind is 3 -/
def KOk (t k : Nat) : Prop := parseFieldDescriptor (fT t k).2.2.1 = some (fty t k) ∧ (fT t k).1 = cnm t ∧ (match (fkt t k).1, fty t k with
    | 0, .int => (fT t k).2.2.2 = false
    | 1, .boolean => (fT t k).2.2.2 = false
    | 2, .long => (fT t k).2.2.2 = false
    | 3, .object _ => (fT t k).2.2.2 = true
    | 3, .array _ => (fT t k).2.2.2 = true
    | 4, .object _ => (fT t k).2.2.2 = false
    | _, _ => False)
theorem k0_0 : KOk 0 0 := ⟨by decide +kernel, rfl, rfl⟩
theorem k0_1 : KOk 0 1 := ⟨by decide +kernel, rfl, rfl⟩
theorem k0_2 : KOk 0 2 := ⟨by decide +kernel, rfl, rfl⟩
theorem k0_3 : KOk 0 3 := ⟨by decide +kernel, rfl, rfl⟩
theorem k0_4 : KOk 0 4 := ⟨by decide +kernel, rfl, rfl⟩
theorem nm_0 : ∀ a, a < nf 0 → ∀ b, b < nf 0 → a ≠ b → (fT 0 a).2.1 ≠ (fT 0 b).2.1 := by decide +kernel
theorem k1_0 : KOk 1 0 := ⟨by decide +kernel, rfl, rfl⟩
theorem k1_1 : KOk 1 1 := ⟨by decide +kernel, rfl, rfl⟩
theorem k1_2 : KOk 1 2 := ⟨by decide +kernel, rfl, rfl⟩
theorem k1_3 : KOk 1 3 := ⟨by decide +kernel, rfl, rfl⟩
theorem k1_4 : KOk 1 4 := ⟨by decide +kernel, rfl, rfl⟩
theorem k1_5 : KOk 1 5 := ⟨by decide +kernel, rfl, rfl⟩
theorem k1_6 : KOk 1 6 := ⟨by decide +kernel, rfl, rfl⟩
theorem nm_1 : ∀ a, a < nf 1 → ∀ b, b < nf 1 → a ≠ b → (fT 1 a).2.1 ≠ (fT 1 b).2.1 := by decide +kernel
theorem k2_0 : KOk 2 0 := ⟨by decide +kernel, rfl, rfl⟩
theorem k2_1 : KOk 2 1 := ⟨by decide +kernel, rfl, rfl⟩
theorem k2_2 : KOk 2 2 := ⟨by decide +kernel, rfl, rfl⟩
theorem k2_3 : KOk 2 3 := ⟨by decide +kernel, rfl, rfl⟩
theorem k2_4 : KOk 2 4 := ⟨by decide +kernel, rfl, rfl⟩
theorem k2_5 : KOk 2 5 := ⟨by decide +kernel, rfl, rfl⟩
theorem nm_2 : ∀ a, a < nf 2 → ∀ b, b < nf 2 → a ≠ b → (fT 2 a).2.1 ≠ (fT 2 b).2.1 := by decide +kernel
theorem k3_0 : KOk 3 0 := ⟨by decide +kernel, rfl, rfl⟩
theorem k3_1 : KOk 3 1 := ⟨by decide +kernel, rfl, rfl⟩
theorem k3_2 : KOk 3 2 := ⟨by decide +kernel, rfl, rfl⟩
theorem k3_3 : KOk 3 3 := ⟨by decide +kernel, rfl, rfl⟩
theorem k3_4 : KOk 3 4 := ⟨by decide +kernel, rfl, rfl⟩
theorem k3_5 : KOk 3 5 := ⟨by decide +kernel, rfl, rfl⟩
theorem k3_6 : KOk 3 6 := ⟨by decide +kernel, rfl, rfl⟩
theorem k3_7 : KOk 3 7 := ⟨by decide +kernel, rfl, rfl⟩
theorem k3_8 : KOk 3 8 := ⟨by decide +kernel, rfl, rfl⟩
theorem k3_9 : KOk 3 9 := ⟨by decide +kernel, rfl, rfl⟩
theorem nm_3 : ∀ a, a < nf 3 → ∀ b, b < nf 3 → a ≠ b → (fT 3 a).2.1 ≠ (fT 3 b).2.1 := by decide +kernel
theorem k4_0 : KOk 4 0 := ⟨by decide +kernel, rfl, rfl⟩
theorem k4_1 : KOk 4 1 := ⟨by decide +kernel, rfl, rfl⟩
theorem k4_2 : KOk 4 2 := ⟨by decide +kernel, rfl, rfl⟩
theorem k4_3 : KOk 4 3 := ⟨by decide +kernel, rfl, rfl⟩
theorem k4_4 : KOk 4 4 := ⟨by decide +kernel, rfl, rfl⟩
theorem nm_4 : ∀ a, a < nf 4 → ∀ b, b < nf 4 → a ≠ b → (fT 4 a).2.1 ≠ (fT 4 b).2.1 := by decide +kernel
theorem k5_0 : KOk 5 0 := ⟨by decide +kernel, rfl, rfl⟩
theorem k5_1 : KOk 5 1 := ⟨by decide +kernel, rfl, rfl⟩
theorem k5_2 : KOk 5 2 := ⟨by decide +kernel, rfl, rfl⟩
theorem k5_3 : KOk 5 3 := ⟨by decide +kernel, rfl, rfl⟩
theorem k5_4 : KOk 5 4 := ⟨by decide +kernel, rfl, rfl⟩
theorem k5_5 : KOk 5 5 := ⟨by decide +kernel, rfl, rfl⟩
theorem k5_6 : KOk 5 6 := ⟨by decide +kernel, rfl, rfl⟩
theorem k5_7 : KOk 5 7 := ⟨by decide +kernel, rfl, rfl⟩
theorem k5_8 : KOk 5 8 := ⟨by decide +kernel, rfl, rfl⟩
theorem k5_9 : KOk 5 9 := ⟨by decide +kernel, rfl, rfl⟩
theorem nm_5 : ∀ a, a < nf 5 → ∀ b, b < nf 5 → a ≠ b → (fT 5 a).2.1 ≠ (fT 5 b).2.1 := by decide +kernel
theorem k6_0 : KOk 6 0 := ⟨by decide +kernel, rfl, rfl⟩
theorem k6_1 : KOk 6 1 := ⟨by decide +kernel, rfl, rfl⟩
theorem k6_2 : KOk 6 2 := ⟨by decide +kernel, rfl, rfl⟩
theorem k6_3 : KOk 6 3 := ⟨by decide +kernel, rfl, rfl⟩
theorem k6_4 : KOk 6 4 := ⟨by decide +kernel, rfl, rfl⟩
theorem k6_5 : KOk 6 5 := ⟨by decide +kernel, rfl, rfl⟩
theorem k6_6 : KOk 6 6 := ⟨by decide +kernel, rfl, rfl⟩
theorem k6_7 : KOk 6 7 := ⟨by decide +kernel, rfl, rfl⟩
theorem nm_6 : ∀ a, a < nf 6 → ∀ b, b < nf 6 → a ≠ b → (fT 6 a).2.1 ≠ (fT 6 b).2.1 := by decide +kernel
theorem k7_0 : KOk 7 0 := ⟨by decide +kernel, rfl, rfl⟩
theorem k7_1 : KOk 7 1 := ⟨by decide +kernel, rfl, rfl⟩
theorem k7_2 : KOk 7 2 := ⟨by decide +kernel, rfl, rfl⟩
theorem k7_3 : KOk 7 3 := ⟨by decide +kernel, rfl, rfl⟩
theorem k7_4 : KOk 7 4 := ⟨by decide +kernel, rfl, rfl⟩
theorem k7_5 : KOk 7 5 := ⟨by decide +kernel, rfl, rfl⟩
theorem k7_6 : KOk 7 6 := ⟨by decide +kernel, rfl, rfl⟩
theorem k7_7 : KOk 7 7 := ⟨by decide +kernel, rfl, rfl⟩
theorem k7_8 : KOk 7 8 := ⟨by decide +kernel, rfl, rfl⟩
theorem nm_7 : ∀ a, a < nf 7 → ∀ b, b < nf 7 → a ≠ b → (fT 7 a).2.1 ≠ (fT 7 b).2.1 := by decide +kernel
theorem k8_0 : KOk 8 0 := ⟨by decide +kernel, rfl, rfl⟩
theorem k8_1 : KOk 8 1 := ⟨by decide +kernel, rfl, rfl⟩
theorem nm_8 : ∀ a, a < nf 8 → ∀ b, b < nf 8 → a ≠ b → (fT 8 a).2.1 ≠ (fT 8 b).2.1 := by decide +kernel
theorem k9_0 : KOk 9 0 := ⟨by decide +kernel, rfl, rfl⟩
theorem k9_1 : KOk 9 1 := ⟨by decide +kernel, rfl, rfl⟩
theorem k9_2 : KOk 9 2 := ⟨by decide +kernel, rfl, rfl⟩
theorem k9_3 : KOk 9 3 := ⟨by decide +kernel, rfl, rfl⟩
theorem k9_4 : KOk 9 4 := ⟨by decide +kernel, rfl, rfl⟩
theorem k9_5 : KOk 9 5 := ⟨by decide +kernel, rfl, rfl⟩
theorem k9_6 : KOk 9 6 := ⟨by decide +kernel, rfl, rfl⟩
theorem k9_7 : KOk 9 7 := ⟨by decide +kernel, rfl, rfl⟩
theorem k9_8 : KOk 9 8 := ⟨by decide +kernel, rfl, rfl⟩
theorem k9_9 : KOk 9 9 := ⟨by decide +kernel, rfl, rfl⟩
theorem k9_10 : KOk 9 10 := ⟨by decide +kernel, rfl, rfl⟩
theorem k9_11 : KOk 9 11 := ⟨by decide +kernel, rfl, rfl⟩
theorem k9_12 : KOk 9 12 := ⟨by decide +kernel, rfl, rfl⟩
theorem k9_13 : KOk 9 13 := ⟨by decide +kernel, rfl, rfl⟩
theorem nm_9 : ∀ a, a < nf 9 → ∀ b, b < nf 9 → a ≠ b → (fT 9 a).2.1 ≠ (fT 9 b).2.1 := by decide +kernel
theorem k10_0 : KOk 10 0 := ⟨by decide +kernel, rfl, rfl⟩
theorem k10_1 : KOk 10 1 := ⟨by decide +kernel, rfl, rfl⟩
theorem k10_2 : KOk 10 2 := ⟨by decide +kernel, rfl, rfl⟩
theorem k10_3 : KOk 10 3 := ⟨by decide +kernel, rfl, rfl⟩
theorem k10_4 : KOk 10 4 := ⟨by decide +kernel, rfl, rfl⟩
theorem k10_5 : KOk 10 5 := ⟨by decide +kernel, rfl, rfl⟩
theorem k10_6 : KOk 10 6 := ⟨by decide +kernel, rfl, rfl⟩
theorem k10_7 : KOk 10 7 := ⟨by decide +kernel, rfl, rfl⟩
theorem k10_8 : KOk 10 8 := ⟨by decide +kernel, rfl, rfl⟩
theorem k10_9 : KOk 10 9 := ⟨by decide +kernel, rfl, rfl⟩
theorem k10_10 : KOk 10 10 := ⟨by decide +kernel, rfl, rfl⟩
theorem k10_11 : KOk 10 11 := ⟨by decide +kernel, rfl, rfl⟩
theorem k10_12 : KOk 10 12 := ⟨by decide +kernel, rfl, rfl⟩
theorem k10_13 : KOk 10 13 := ⟨by decide +kernel, rfl, rfl⟩
theorem k10_14 : KOk 10 14 := ⟨by decide +kernel, rfl, rfl⟩
theorem k10_15 : KOk 10 15 := ⟨by decide +kernel, rfl, rfl⟩
theorem k10_16 : KOk 10 16 := ⟨by decide +kernel, rfl, rfl⟩
theorem k10_17 : KOk 10 17 := ⟨by decide +kernel, rfl, rfl⟩
theorem k10_18 : KOk 10 18 := ⟨by decide +kernel, rfl, rfl⟩
theorem k10_19 : KOk 10 19 := ⟨by decide +kernel, rfl, rfl⟩
theorem k10_20 : KOk 10 20 := ⟨by decide +kernel, rfl, rfl⟩
theorem k10_21 : KOk 10 21 := ⟨by decide +kernel, rfl, rfl⟩
theorem k10_22 : KOk 10 22 := ⟨by decide +kernel, rfl, rfl⟩
theorem k10_23 : KOk 10 23 := ⟨by decide +kernel, rfl, rfl⟩
theorem k10_24 : KOk 10 24 := ⟨by decide +kernel, rfl, rfl⟩
theorem k10_25 : KOk 10 25 := ⟨by decide +kernel, rfl, rfl⟩
theorem k10_26 : KOk 10 26 := ⟨by decide +kernel, rfl, rfl⟩
theorem k10_27 : KOk 10 27 := ⟨by decide +kernel, rfl, rfl⟩
theorem k10_28 : KOk 10 28 := ⟨by decide +kernel, rfl, rfl⟩
theorem k10_29 : KOk 10 29 := ⟨by decide +kernel, rfl, rfl⟩
theorem k10_30 : KOk 10 30 := ⟨by decide +kernel, rfl, rfl⟩
theorem k10_31 : KOk 10 31 := ⟨by decide +kernel, rfl, rfl⟩
theorem k10_32 : KOk 10 32 := ⟨by decide +kernel, rfl, rfl⟩
theorem k10_33 : KOk 10 33 := ⟨by decide +kernel, rfl, rfl⟩
theorem k10_34 : KOk 10 34 := ⟨by decide +kernel, rfl, rfl⟩
theorem k10_35 : KOk 10 35 := ⟨by decide +kernel, rfl, rfl⟩
theorem k10_36 : KOk 10 36 := ⟨by decide +kernel, rfl, rfl⟩
theorem k10_37 : KOk 10 37 := ⟨by decide +kernel, rfl, rfl⟩
theorem k10_38 : KOk 10 38 := ⟨by decide +kernel, rfl, rfl⟩
theorem k10_39 : KOk 10 39 := ⟨by decide +kernel, rfl, rfl⟩
theorem k10_40 : KOk 10 40 := ⟨by decide +kernel, rfl, rfl⟩
theorem k10_41 : KOk 10 41 := ⟨by decide +kernel, rfl, rfl⟩
theorem k10_42 : KOk 10 42 := ⟨by decide +kernel, rfl, rfl⟩
theorem k10_43 : KOk 10 43 := ⟨by decide +kernel, rfl, rfl⟩
theorem k10_44 : KOk 10 44 := ⟨by decide +kernel, rfl, rfl⟩
theorem k10_45 : KOk 10 45 := ⟨by decide +kernel, rfl, rfl⟩
theorem k10_46 : KOk 10 46 := ⟨by decide +kernel, rfl, rfl⟩
theorem k10_47 : KOk 10 47 := ⟨by decide +kernel, rfl, rfl⟩
theorem k10_48 : KOk 10 48 := ⟨by decide +kernel, rfl, rfl⟩
theorem k10_49 : KOk 10 49 := ⟨by decide +kernel, rfl, rfl⟩
theorem k10_50 : KOk 10 50 := ⟨by decide +kernel, rfl, rfl⟩
theorem k10_51 : KOk 10 51 := ⟨by decide +kernel, rfl, rfl⟩
theorem k10_52 : KOk 10 52 := ⟨by decide +kernel, rfl, rfl⟩
theorem k10_53 : KOk 10 53 := ⟨by decide +kernel, rfl, rfl⟩
theorem k10_54 : KOk 10 54 := ⟨by decide +kernel, rfl, rfl⟩
theorem k10_55 : KOk 10 55 := ⟨by decide +kernel, rfl, rfl⟩
theorem k10_56 : KOk 10 56 := ⟨by decide +kernel, rfl, rfl⟩
theorem k10_57 : KOk 10 57 := ⟨by decide +kernel, rfl, rfl⟩
theorem k10_58 : KOk 10 58 := ⟨by decide +kernel, rfl, rfl⟩
theorem k10_59 : KOk 10 59 := ⟨by decide +kernel, rfl, rfl⟩
theorem k10_60 : KOk 10 60 := ⟨by decide +kernel, rfl, rfl⟩
theorem k10_61 : KOk 10 61 := ⟨by decide +kernel, rfl, rfl⟩
theorem k10_62 : KOk 10 62 := ⟨by decide +kernel, rfl, rfl⟩
theorem k10_63 : KOk 10 63 := ⟨by decide +kernel, rfl, rfl⟩
theorem k10_64 : KOk 10 64 := ⟨by decide +kernel, rfl, rfl⟩
theorem k10_65 : KOk 10 65 := ⟨by decide +kernel, rfl, rfl⟩
theorem k10_66 : KOk 10 66 := ⟨by decide +kernel, rfl, rfl⟩
theorem k10_67 : KOk 10 67 := ⟨by decide +kernel, rfl, rfl⟩
theorem k10_68 : KOk 10 68 := ⟨by decide +kernel, rfl, rfl⟩
theorem k10_69 : KOk 10 69 := ⟨by decide +kernel, rfl, rfl⟩
theorem k10_70 : KOk 10 70 := ⟨by decide +kernel, rfl, rfl⟩
theorem k10_71 : KOk 10 71 := ⟨by decide +kernel, rfl, rfl⟩
theorem k10_72 : KOk 10 72 := ⟨by decide +kernel, rfl, rfl⟩
theorem k10_73 : KOk 10 73 := ⟨by decide +kernel, rfl, rfl⟩
theorem k10_74 : KOk 10 74 := ⟨by decide +kernel, rfl, rfl⟩
theorem k10_75 : KOk 10 75 := ⟨by decide +kernel, rfl, rfl⟩
theorem k10_76 : KOk 10 76 := ⟨by decide +kernel, rfl, rfl⟩
theorem k10_77 : KOk 10 77 := ⟨by decide +kernel, rfl, rfl⟩
theorem k10_78 : KOk 10 78 := ⟨by decide +kernel, rfl, rfl⟩
theorem k10_79 : KOk 10 79 := ⟨by decide +kernel, rfl, rfl⟩
theorem nm_10 : ∀ a, a < nf 10 → ∀ b, b < nf 10 → a ≠ b → (fT 10 a).2.1 ≠ (fT 10 b).2.1 := by decide +kernel
theorem kA_0 : AllN (KOk 0) 5 := ⟨⟨⟨⟨⟨trivial, k0_0⟩, k0_1⟩, k0_2⟩, k0_3⟩, k0_4⟩
theorem kA_1 : AllN (KOk 1) 7 := ⟨⟨⟨⟨⟨⟨⟨trivial, k1_0⟩, k1_1⟩, k1_2⟩, k1_3⟩, k1_4⟩, k1_5⟩, k1_6⟩
theorem kA_2 : AllN (KOk 2) 6 := ⟨⟨⟨⟨⟨⟨trivial, k2_0⟩, k2_1⟩, k2_2⟩, k2_3⟩, k2_4⟩, k2_5⟩
theorem kA_3 : AllN (KOk 3) 10 := ⟨⟨⟨⟨⟨⟨⟨⟨⟨⟨trivial, k3_0⟩, k3_1⟩, k3_2⟩, k3_3⟩, k3_4⟩, k3_5⟩, k3_6⟩, k3_7⟩, k3_8⟩, k3_9⟩
theorem kA_4 : AllN (KOk 4) 5 := ⟨⟨⟨⟨⟨trivial, k4_0⟩, k4_1⟩, k4_2⟩, k4_3⟩, k4_4⟩
theorem kA_5 : AllN (KOk 5) 10 := ⟨⟨⟨⟨⟨⟨⟨⟨⟨⟨trivial, k5_0⟩, k5_1⟩, k5_2⟩, k5_3⟩, k5_4⟩, k5_5⟩, k5_6⟩, k5_7⟩, k5_8⟩, k5_9⟩
theorem kA_6 : AllN (KOk 6) 8 := ⟨⟨⟨⟨⟨⟨⟨⟨trivial, k6_0⟩, k6_1⟩, k6_2⟩, k6_3⟩, k6_4⟩, k6_5⟩, k6_6⟩, k6_7⟩
theorem kA_7 : AllN (KOk 7) 9 := ⟨⟨⟨⟨⟨⟨⟨⟨⟨trivial, k7_0⟩, k7_1⟩, k7_2⟩, k7_3⟩, k7_4⟩, k7_5⟩, k7_6⟩, k7_7⟩, k7_8⟩
theorem kA_8 : AllN (KOk 8) 2 := ⟨⟨trivial, k8_0⟩, k8_1⟩
theorem kA_9 : AllN (KOk 9) 14 := ⟨⟨⟨⟨⟨⟨⟨⟨⟨⟨⟨⟨⟨⟨trivial, k9_0⟩, k9_1⟩, k9_2⟩, k9_3⟩, k9_4⟩, k9_5⟩, k9_6⟩, k9_7⟩, k9_8⟩, k9_9⟩, k9_10⟩, k9_11⟩, k9_12⟩, k9_13⟩
theorem kA_10 : AllN (KOk 10) 80 := ⟨⟨⟨⟨⟨⟨⟨⟨⟨⟨⟨⟨⟨⟨⟨⟨⟨⟨⟨⟨⟨⟨⟨⟨⟨⟨⟨⟨⟨⟨⟨⟨⟨⟨⟨⟨⟨⟨⟨⟨⟨⟨⟨⟨⟨⟨⟨⟨⟨⟨⟨⟨⟨⟨⟨⟨⟨⟨⟨⟨⟨⟨⟨⟨⟨⟨⟨⟨⟨⟨⟨⟨⟨⟨⟨⟨⟨⟨⟨⟨trivial, k10_0⟩, k10_1⟩, k10_2⟩, k10_3⟩, k10_4⟩, k10_5⟩, k10_6⟩, k10_7⟩, k10_8⟩, k10_9⟩, k10_10⟩, k10_11⟩, k10_12⟩, k10_13⟩, k10_14⟩, k10_15⟩, k10_16⟩, k10_17⟩, k10_18⟩, k10_19⟩, k10_20⟩, k10_21⟩, k10_22⟩, k10_23⟩, k10_24⟩, k10_25⟩, k10_26⟩, k10_27⟩, k10_28⟩, k10_29⟩, k10_30⟩, k10_31⟩, k10_32⟩, k10_33⟩, k10_34⟩, k10_35⟩, k10_36⟩, k10_37⟩, k10_38⟩, k10_39⟩, k10_40⟩, k10_41⟩, k10_42⟩, k10_43⟩, k10_44⟩, k10_45⟩, k10_46⟩, k10_47⟩, k10_48⟩, k10_49⟩, k10_50⟩, k10_51⟩, k10_52⟩, k10_53⟩, k10_54⟩, k10_55⟩, k10_56⟩, k10_57⟩, k10_58⟩, k10_59⟩, k10_60⟩, k10_61⟩, k10_62⟩, k10_63⟩, k10_64⟩, k10_65⟩, k10_66⟩, k10_67⟩, k10_68⟩, k10_69⟩, k10_70⟩, k10_71⟩, k10_72⟩, k10_73⟩, k10_74⟩, k10_75⟩, k10_76⟩, k10_77⟩, k10_78⟩, k10_79⟩
theorem ko_all {t k : Nat} (ht : t < 11) (hk : k < nf t) : KOk t k := by
  match t, ht with
  | 0, _ => exact kA_0.get hk
  | 1, _ => exact kA_1.get hk
  | 2, _ => exact kA_2.get hk
  | 3, _ => exact kA_3.get hk
  | 4, _ => exact kA_4.get hk
  | 5, _ => exact kA_5.get hk
  | 6, _ => exact kA_6.get hk
  | 7, _ => exact kA_7.get hk
  | 8, _ => exact kA_8.get hk
  | 9, _ => exact kA_9.get hk
  | 10, _ => exact kA_10.get hk
theorem nm_all {t : Nat} (ht : t < 11) : ∀ a, a < nf t → ∀ b, b < nf t → a ≠ b → (fT t a).2.1 ≠ (fT t b).2.1 := by
  match t, ht with
  | 0, _ => exact nm_0
  | 1, _ => exact nm_1
  | 2, _ => exact nm_2
  | 3, _ => exact nm_3
  | 4, _ => exact nm_4
  | 5, _ => exact nm_5
  | 6, _ => exact nm_6
  | 7, _ => exact nm_7
  | 8, _ => exact nm_8
  | 9, _ => exact nm_9
  | 10, _ => exact nm_10
theorem in_obj : Cond.instanceMethod Lib.objectInit ∈ lw_tbl ∧ Cond.code Lib.objectInit ⟨#[0xb1]⟩ 1 none ∈ lw_tbl := ⟨m_1 (i := 21) rfl, m_1 (i := 22) rfl⟩
theorem in_cpy : Cond.native arraycopyName ∈ lw_tbl ∧ Cond.static arraycopyName ∈ lw_tbl ∧ Cond.initialized "java/lang/System" ∈ lw_tbl := ⟨m_3 (i := 228) rfl, m_3 (i := 227) rfl, m_1 (i := 13) rfl⟩
theorem in_arr : Cond.arrayClass .int ∈ lw_tbl ∧ Cond.arrayClass .long ∈ lw_tbl ∧ Cond.arrayClass .boolean ∈ lw_tbl ∧ Cond.arrayClass .byte ∈ lw_tbl ∧ Cond.arrayOver (.object "RuleNet$Pattern") ∈ lw_tbl := ⟨m_1 (i := 51) rfl, m_1 (i := 153) rfl, m_1 (i := 52) rfl, m_5 (i := 190) rfl, m_1 (i := 155) rfl⟩
theorem in_nest : Cond.methodLinkNest "RuleNet" 44 i6_init.1 "RuleNet" ∈ lw_tbl ∧ Cond.methodLinkNest "RuleNet$Pattern" 26 i0_init.1 "RuleNet" ∈ lw_tbl ∧ Cond.methodLinkNest "RuleNet" 47 i0_init.1 "RuleNet" ∈ lw_tbl := ⟨m_1 (i := 157) rfl, m_1 (i := 165) rfl, m_1 (i := 229) rfl⟩
theorem in_st : Cond.laysStatic "RuleNet$Matcher" "ORDER_COUNTS" "[I" ∈ lw_tbl ∧ Cond.laysStatic "RuleNet$Matcher" "ORDERS" "[I" ∈ lw_tbl ∧ Cond.initialized "RuleNet$Matcher" ∈ lw_tbl := ⟨m_4 (i := 1) rfl, m_4 (i := 7) rfl, m_1 (i := 9) rfl⟩
theorem in_math : (Cond.static Lib.Math.max.name ∈ lw_tbl ∧ Cond.code Lib.Math.max.name Lib.Math.max.code 2 (some .int) ∈ lw_tbl) ∧ (Cond.static Lib.Math.min.name ∈ lw_tbl ∧ Cond.code Lib.Math.min.name Lib.Math.min.code 2 (some .int) ∈ lw_tbl) ∧ (Cond.static Lib.MathLoose.max_long.x ∈ lw_tbl ∧ Cond.code Lib.MathLoose.max_long.x Lib.MathLoose.max_long.code 4 (some .long) ∈ lw_tbl) ∧ (Cond.static Lib.MathLoose.abs_long.x ∈ lw_tbl ∧ Cond.code Lib.MathLoose.abs_long.x Lib.MathLoose.abs_long.code 2 (some .long) ∈ lw_tbl) ∧ Cond.initialized "java/lang/Math" ∈ lw_tbl := ⟨⟨m_1 (i := 60) rfl, m_1 (i := 61) rfl⟩, ⟨m_3 (i := 151) rfl, m_3 (i := 152) rfl⟩, ⟨m_4 (i := 136) rfl, m_4 (i := 137) rfl⟩, ⟨m_4 (i := 160) rfl, m_4 (i := 161) rfl⟩, m_1 (i := 4) rfl⟩
