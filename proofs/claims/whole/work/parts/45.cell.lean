/-! the operations on rows and summaries -/
theorem c9_in1 {a lo hi : Int32} {Q : Int32 → Mem → Prop} {M : Mem} (h1 : ¬ a < lo) (h2 : ¬ hi < a) (hQ : Q 1 M) : w_X9_in a lo hi Q M := by
  unfold w_X9_in
  rw [if_neg h1, if_neg h2]
  exact hQ
theorem c9_in0 {a lo hi : Int32} {Q : Int32 → Mem → Prop} {M : Mem} (h : a < lo ∨ hi < a) (hQ : Q 0 M) : w_X9_in a lo hi Q M := by
  unfold w_X9_in
  by_cases h1 : a < lo
  · rw [if_pos h1]; exact hQ
  · rw [if_neg h1, if_pos (h.resolve_left h1)]; exact hQ
theorem i32_lt {a b : Int32} : a < b ↔ a.toInt < b.toInt := Int32.lt_iff_toInt_lt
theorem i32_le {a b : Int32} : a ≤ b ↔ a.toInt ≤ b.toInt := Int32.le_iff_toInt_le
theorem x6 (a : Int32) : (a < 0 ∨ (6 : Int32) ≤ a) ∨ ∃ b, b < 6 ∧ a = nI b := by
  rcases pk_ix a (n := 6) (by omega) with h | h | h
  · exact Or.inl (Or.inl h)
  · exact Or.inl (Or.inr h)
  · exact Or.inr h
theorem x4 (a : Int32) : (a < 0 ∨ (4 : Int32) ≤ a) ∨ ∃ b, b < 4 ∧ a = nI b := by
  rcases pk_ix a (n := 4) (by omega) with h | h | h
  · exact Or.inl (Or.inl h)
  · exact Or.inl (Or.inr h)
  · exact Or.inr h
theorem xn (a : Int32) {n : Nat} (hn : n < 2 ^ 31) : (a < 0 ∨ nI n ≤ a) ∨ ∃ b, b < n ∧ a = nI b := by
  rcases pk_ix a hn with h | h | h
  · exact Or.inl (Or.inl h)
  · exact Or.inl (Or.inr h)
  · exact Or.inr h
theorem c8_isBlock {b : Nat} (hb : b < 6) {Q : Int32 → Mem → Prop} {M : Mem} (hQ : Q 1 M) : w_X8_isBlock (nI b) Q M := by
  unfold w_X8_isBlock
  rw [if_neg (nI_nn (by omega)), if_neg (by rw [nI_lel (by omega) (by omega)]; omega)]
  exact hQ
theorem c8_isBlock0 {a : Int32} (h : a < 0 ∨ (6 : Int32) ≤ a) {Q : Int32 → Mem → Prop} {M : Mem} (hQ : Q 0 M) : w_X8_isBlock a Q M := by
  unfold w_X8_isBlock
  by_cases h1 : a < 0
  · rw [if_pos h1]; exact hQ
  · rw [if_neg h1, if_pos (h.resolve_left h1)]; exact hQ
theorem c8_isColumn {b : Nat} (hb : b < 4) {Q : Int32 → Mem → Prop} {M : Mem} (hQ : Q 1 M) : w_X8_isColumn (nI b) Q M := by
  unfold w_X8_isColumn
  rw [if_neg (nI_nn (by omega)), if_neg (by rw [nI_lel (by omega) (by omega)]; omega)]
  exact hQ
theorem c8_isColumn0 {a : Int32} (h : a < 0 ∨ (4 : Int32) ≤ a) {Q : Int32 → Mem → Prop} {M : Mem} (hQ : Q 0 M) : w_X8_isColumn a Q M := by
  unfold w_X8_isColumn
  by_cases h1 : a < 0
  · rw [if_pos h1]; exact hQ
  · rw [if_neg h1, if_pos (h.resolve_left h1)]; exact hQ
theorem lt_of_le_s {a x y : Int32} (e : y.toInt = x.toInt + 1) (h : y ≤ a) : x < a := by
  rw [i32_le] at h
  rw [i32_lt]
  omega
theorem c9_isBlock {b : Nat} (hb : b < 6) {Q : Int32 → Mem → Prop} {M : Mem} (hQ : Q 1 M) : w_X9_isBlock (nI b) Q M := by
  refine c9_in1 (nI_nn (by omega)) ?_ ⟨Or.inr rfl, hQ⟩
  rw [nI_ltl (by omega) (by omega)]
  omega
theorem c9_isBlock0 {a : Int32} (h : a < 0 ∨ (6 : Int32) ≤ a) {Q : Int32 → Mem → Prop} {M : Mem} (hQ : Q 0 M) : w_X9_isBlock a Q M :=
  c9_in0 (h.imp id (lt_of_le_s (by decide))) ⟨Or.inl rfl, hQ⟩
theorem c9_isColumn {b : Nat} (hb : b < 4) {Q : Int32 → Mem → Prop} {M : Mem} (hQ : Q 1 M) : w_X9_isColumn (nI b) Q M := by
  refine c9_in1 (nI_nn (by omega)) ?_ ⟨Or.inr rfl, hQ⟩
  rw [nI_ltl (by omega) (by omega)]
  omega
theorem c9_isColumn0 {a : Int32} (h : a < 0 ∨ (4 : Int32) ≤ a) {Q : Int32 → Mem → Prop} {M : Mem} (hQ : Q 0 M) : w_X9_isColumn a Q M :=
  c9_in0 (h.imp id (lt_of_le_s (by decide))) ⟨Or.inl rfl, hQ⟩
theorem c8_isRow {b r n : Nat} (hb : b < 6) {Q : Int32 → Mem → Prop} {M : Mem} (hn : n ≤ 8) (h3 : M.1 (3, 0, b, 0) 0 = nI n) (hr : r < n) (hQ : Q 1 M) : w_X8_isRow (nI b) (nI r) Q M := by
  refine c8_isBlock hb ?_
  rw [if_neg (by decide), if_neg (nI_nn (by omega))]
  refine ⟨vpT (by omega) (by omega), ?_⟩
  rw [nI_clamp (by omega), h3, if_neg (by rw [nI_leI (by omega) (by omega)]; omega)]
  exact hQ
theorem c8_isRow0 {b n : Nat} {a : Int32} (hb : b < 6) {Q : Int32 → Mem → Prop} {M : Mem} (h3 : M.1 (3, 0, b, 0) 0 = nI n) (h : a < 0 ∨ nI n ≤ a) (hQ : Q 0 M) : w_X8_isRow (nI b) a Q M := by
  refine c8_isBlock hb ?_
  rw [if_neg (by decide)]
  by_cases h1 : a < 0
  · rw [if_pos h1]; exact hQ
  · rw [if_neg h1]
    refine ⟨vpT (by omega) (by omega), ?_⟩
    rw [nI_clamp (by omega), h3, if_pos (h.resolve_left h1)]
    exact hQ
theorem c8_isRowB {a r : Int32} (h : a < 0 ∨ (6 : Int32) ≤ a) {Q : Int32 → Mem → Prop} {M : Mem} (hQ : Q 0 M) : w_X8_isRow a r Q M := by
  refine c8_isBlock0 h ?_
  rw [if_pos rfl]
  exact hQ
theorem nI_m1 {n : Nat} (hn : n ≤ 8) : (nI n - 1).toInt = (n : Int) - 1 := by
  have h : n = 0 ∨ n = 1 ∨ n = 2 ∨ n = 3 ∨ n = 4 ∨ n = 5 ∨ n = 6 ∨ n = 7 ∨ n = 8 := by omega
  rcases h with h | h | h | h | h | h | h | h | h <;> subst h <;> decide
theorem c9_isRow {b r n : Nat} (hb : b < 6) {Q : Int32 → Mem → Prop} {M : Mem} (hn : n ≤ 8) (h3 : M.1 (31, 0, 0, 0) b = nI n) (hr : r < n) (hQ : Q 1 M) : w_X9_isRow (nI b) (nI r) Q M := by
  refine c9_isBlock hb ?_
  rw [if_neg (by decide)]
  refine ⟨vpT (by omega) (by omega), ?_⟩
  rw [nI_clamp (by omega), h3]
  refine c9_in1 (nI_nn (by omega)) ?_ ?_
  · rw [i32_lt, nI_m1 hn, nI_toInt (by omega)]; omega
  · rw [if_neg (by decide)]; exact hQ
theorem c9_isRow0 {b n : Nat} {a : Int32} (hb : b < 6) {Q : Int32 → Mem → Prop} {M : Mem} (hn : n ≤ 8) (h3 : M.1 (31, 0, 0, 0) b = nI n) (h : a < 0 ∨ nI n ≤ a) (hQ : Q 0 M) : w_X9_isRow (nI b) a Q M := by
  refine c9_isBlock hb ?_
  rw [if_neg (by decide)]
  refine ⟨vpT (by omega) (by omega), ?_⟩
  rw [nI_clamp (by omega), h3]
  refine c9_in0 (h.imp id (fun q => lt_of_le_s ?_ q)) ?_
  · rw [nI_m1 hn, nI_toInt (by omega)]; omega
  · rw [if_pos rfl]; exact hQ
theorem c9_isRowB {a r : Int32} (h : a < 0 ∨ (6 : Int32) ≤ a) {Q : Int32 → Mem → Prop} {M : Mem} (hQ : Q 0 M) : w_X9_isRow a r Q M := by
  refine c9_isBlock0 h ?_
  rw [if_pos rfl]
  exact hQ
theorem OPK.same {w9 : (Int32 → Mem → Prop) → Mem → Prop} {M : Mem} {r : Int32} (hR : Rel M) (h : ∀ Q : Int32 → Mem → Prop, Q r M → w9 Q M) : OPK w9 M r M := ⟨rfl, fun Q hQ => h Q (hQ M rfl hR)⟩
/-- cell -/
theorem o_cell {a1 a2 a3 : Int32} {M : Mem} (hR : Rel M) {Q : Int32 → Mem → Prop} (hQ : ∀ r M1, OPK (w_X9_cell a1 a2 a3) M r M1 → Q r M1) : w_X8_cell a1 a2 a3 Q M := by
  have hR0 := hR
  obtain ⟨⟨mn, hS⟩, -, -⟩ := hR
  rcases x6 a1 with h | ⟨b, hb, rfl⟩
  · refine c8_isRowB h ?_
    rw [if_pos rfl]
    refine hQ _ _ (OPK.same hR0 fun Q q => c9_isRowB h ?_)
    rw [if_pos rfl]
    exact q
  · obtain ⟨h31, hB, -⟩ := hS b hb
    rcases xn a2 (n := mn b) (by have := hB.2.1; omega) with h | ⟨r, hr, rfl⟩
    · refine c8_isRow0 hb hB.1 h ?_
      rw [if_pos rfl]
      refine hQ _ _ (OPK.same hR0 fun Q q => c9_isRow0 hb hB.2.1 h31 h ?_)
      rw [if_pos rfl]
      exact q
    · have hn := hB.2.1
      refine c8_isRow hb hB.2.1 hB.1 hr ?_
      rw [if_neg (by decide)]
      rcases x4 a3 with h | ⟨c, hc, rfl⟩
      · refine c8_isColumn0 h ?_
        rw [if_pos rfl]
        refine hQ _ _ (OPK.same hR0 fun Q q => c9_isRow hb hB.2.1 h31 hr ?_)
        rw [if_neg (by decide)]
        refine c9_isColumn0 h ?_
        rw [if_pos rfl]
        exact q
      · refine c8_isColumn hc ?_
        rw [if_neg (by decide)]
        refine ⟨vpT (by omega) (by omega), vpT (by omega) (by omega), vpT (by omega) (by omega), ?_⟩
        rw [nI_clamp (by omega), nI_clamp (by omega), nI_clamp (by omega), hB.2.2.1 r c hr hc]
        refine hQ _ _ (OPK.same hR0 fun Q q => c9_isRow hb hB.2.1 h31 hr ?_)
        rw [if_neg (by decide)]
        refine c9_isColumn hc ?_
        rw [if_neg (by decide)]
        exact c9_at hb (by omega) hc q
