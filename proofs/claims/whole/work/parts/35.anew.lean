theorem fb_holes : ∀ (m n : Nat) (f : Nat → Nat), (∀ i, i < n → f i < m) → (∀ i j, i < j → j < n → f i ≠ f j) → n ≤ m := by
  intro m
  induction m with
  | zero =>
    intro n f h1 _
    rcases Nat.eq_zero_or_pos n with h | h
    · omega
    · exact absurd (h1 0 h) (Nat.not_lt_zero _)
  | succ m ih =>
    intro n f h1 h2
    by_cases hx : ∃ i, i < n ∧ f i = m
    · obtain ⟨a, ha, hfa⟩ := hx
      have hg := ih (n - 1) (fun i => if i < a then f i else f (i + 1)) (by
        intro i hi
        by_cases q : i < a
        · simp only [if_pos q]
          have b1 := h1 i (by omega)
          have b2 := h2 i a q ha
          omega
        · simp only [if_neg q]
          have b1 := h1 (i + 1) (by omega)
          have b2 := h2 a (i + 1) (by omega) (by omega)
          omega) (by
        intro i j hij hj
        by_cases q : i < a
        · by_cases r : j < a
          · simp only [if_pos q, if_pos r]
            exact h2 i j hij (by omega)
          · simp only [if_pos q, if_neg r]
            exact h2 i (j + 1) (by omega) (by omega)
        · have r : ¬ j < a := by omega
          simp only [if_neg q, if_neg r]
          exact h2 (i + 1) (j + 1) (by omega) (by omega))
      omega
    · have hg := ih n f (fun i hi => by
        have b1 := h1 i hi
        have b2 : f i ≠ m := fun e => hx ⟨i, hi, e⟩
        omega) h2
      omega
/-- two of them in one place -/
theorem fb_twice {m n : Nat} {f : Nat → Nat} (h : ∀ i, i < n → f i < m) (hm : m < n) : ∃ i j, i < j ∧ j < n ∧ f i = f j := by
  refine Classical.byContradiction fun hx => ?_
  have := fb_holes m n f h (fun i j hij hj e => hx ⟨i, j, hij, hj, e⟩)
  omega
/-- as many as places, none twice: each place is taken -/
theorem fb_onto {n : Nat} {f : Nat → Nat} (h : ∀ i, i < n → f i < n) (h2 : ∀ i j, i < j → j < n → f i ≠ f j) {y : Nat} (hy : y < n) : ∃ i, i < n ∧ f i = y := by
  refine Classical.byContradiction fun hx => ?_
  have hne : ∀ i, i < n → f i ≠ y := fun i hi e => hx ⟨i, hi, e⟩
  have := fb_holes (n - 1) n (fun i => if f i < y then f i else f i - 1) (by
    intro i hi
    have b1 := h i hi
    have b2 := hne i hi
    by_cases q : f i < y
    · simp only [if_pos q]; omega
    · simp only [if_neg q]; omega) (by
    intro i j hij hj
    have b1 := hne i (by omega)
    have b2 := hne j hj
    have b3 := h2 i j hij hj
    by_cases q : f i < y
    · by_cases r : f j < y
      · simp only [if_pos q, if_pos r]; exact b3
      · simp only [if_pos q, if_neg r]; omega
    · by_cases r : f j < y
      · simp only [if_neg q, if_pos r]; omega
      · simp only [if_neg q, if_neg r]; omega)
  omega
/-! ===== how many places have a property ===== -/
/-! the reference makes a column anew, and asks whether it is stale -/
theorem c9_at {b r c : Nat} (hb : b < 6) (hr : r < 8) (hc : c < 4) {Q : Int32 → Mem → Prop} {M : Mem} (hQ : Q (M.1 (30, 0, 0, 0) (32 * b + 4 * r + c)) M) : w_X9_at (nI b) (nI r) (nI c) Q M := by
  unfold w_X9_at
  rw [nI_ml, nI_ml, nI_add, nI_add]
  refine ⟨vpT (by omega) (by omega), ?_⟩
  rw [nI_clamp (by omega)]
  exact hQ
theorem okF_clr (f : Nat → Int32) (k : Nat) : okF (clrF f k) k := Or.inr ⟨0, by omega, by rw [clrF_at f k (by omega)]; rfl⟩
theorem okF_come {f : Nat → Int32} {k : Nat} (v : Int32) (h : okF f k) : okF (comeF f k v) k := by
  unfold comeF
  split
  · unfold okF
    rw [upd_ne _ _ (by omega)]
    exact h
  · rcases okF_lg (v := v) h with h3 | ⟨n, hn, h3⟩
    · rw [enF_m1 h3]; exact Or.inl h3
    · by_cases hp : pl (fun i => lgF f k v (12 * k + 4 + i)) v n < n
      · rw [enF_in hn h3 hp]
        unfold okF
        rw [upd_ne _ _ (by omega)]
        exact Or.inr ⟨n, hn, h3⟩
      · by_cases h4 : n = 4
        · subst h4
          rw [enF_full h3 hp]
          exact Or.inl (upd_at _ _ _)
        · rw [enF_new (by omega) h3 hp]
          exact Or.inr ⟨n + 1, by omega, upd_at _ _ _⟩
theorem comeF_out {f : Nat → Int32} {k : Nat} {v : Int32} (h : okF f k) {j : Nat} (hj : j < 12 * k ∨ 12 * k + 12 ≤ j) : comeF f k v j = f j := by
  unfold comeF
  split
  · rw [upd_ne _ _ (by omega)]
  · have e1 : lgF f k v j = f j := by unfold lgF; rw [upd_ne _ _ (by omega), upd_ne _ _ (by omega)]
    rcases okF_lg (v := v) h with h3 | ⟨n, hn, h3⟩
    · rw [enF_m1 h3, e1]
    · by_cases hp : pl (fun i => lgF f k v (12 * k + 4 + i)) v n < n
      · rw [enF_in hn h3 hp, upd_ne _ _ (by omega), e1]
      · by_cases h4 : n = 4
        · subst h4
          rw [enF_full h3 hp, upd_ne _ _ (by omega), e1]
        · rw [enF_new (by omega) h3 hp, upd_ne _ _ (by omega), upd_ne _ _ (by omega), upd_ne _ _ (by omega), e1]
/-- the row, with the column c of the block b made of the first r rows -/
def anF (rw_ f : Nat → Int32) (b c : Nat) : Nat → Nat → Int32
  | 0 => clrF f (4 * b + c)
  | r + 1 => comeF (anF rw_ f b c r) (4 * b + c) (rw_ (32 * b + 4 * r + c))
theorem okF_an (rw_ f : Nat → Int32) (b c : Nat) : ∀ r, okF (anF rw_ f b c r) (4 * b + c)
  | 0 => okF_clr _ _
  | r + 1 => okF_come _ (okF_an rw_ f b c r)
theorem anF_out (rw_ f : Nat → Int32) (b c : Nat) {j : Nat} (hj : j < 12 * (4 * b + c) ∨ 12 * (4 * b + c) + 12 ≤ j) : ∀ r, anF rw_ f b c r j = f j
  | 0 => by
    show clrF f (4 * b + c) j = f j
    unfold clrF
    rw [if_neg (by omega)]
  | r + 1 => by
    show comeF _ _ _ j = _
    rw [comeF_out (okF_an rw_ f b c r) hj, anF_out rw_ f b c hj r]
theorem c9_makeAnew_11 {b c n : Nat} (hb : b < 6) (hc : c < 4) (hn : n ≤ 8) {Q : Mem → Prop} {M : Mem} (hm : M.1 (31, 0, 0, 0) b = nI n) (f : Nat → Int32) (hQ : Q (mr M (32, 0, 0, 0) (anF (M.1 (30, 0, 0, 0)) f b c n))) : ∀ m i, i + m = n → w_X9_makeAnew_11 (nI b) (nI c) Q (m + 1) (nI i) (mr M (32, 0, 0, 0) (anF (M.1 (30, 0, 0, 0)) f b c i)) := by
  intro m
  induction m with
  | zero =>
    intro i hi
    have : i = n := by omega
    subst this
    rw [w_X9_makeAnew_11]
    refine ⟨vpT (by omega) (by omega), ?_⟩
    rw [nI_clamp (by omega), mr_ne _ _ (by simp), hm, if_pos (by rw [nI_leI (by omega) (by omega)]; omega)]
    exact hQ
  | succ m ih =>
    intro i hi
    rw [w_X9_makeAnew_11]
    refine ⟨vpT (by omega) (by omega), ?_⟩
    rw [nI_clamp (by omega), mr_ne _ _ (by simp), hm, if_neg (by rw [nI_leI (by omega) (by omega)]; omega)]
    refine c9_at hb (by omega) hc ?_
    rw [nI_ml, nI_add, mr_ne _ _ (by simp)]
    refine c9_come (by omega) (by rw [mr_at]; exact okF_an _ _ _ _ _) ?_
    rw [mr_at, mr_mr, nI_1]
    exact ih (i + 1) (by omega)
theorem c9_makeAnew {b c n : Nat} (hb : b < 6) (hc : c < 4) (hn : n ≤ 8) {Q : Mem → Prop} {M : Mem} (hm : M.1 (31, 0, 0, 0) b = nI n) (hQ : Q (mr M (32, 0, 0, 0) (anF (M.1 (30, 0, 0, 0)) (M.1 (32, 0, 0, 0)) b c n))) : w_X9_makeAnew (nI b) (nI c) Q M := by
  unfold w_X9_makeAnew
  rw [nI_ml, nI_add]
  refine w9_clear (by omega) ⟨n + 1, ?_⟩
  rw [clr_clrF]
  exact c9_makeAnew_11 hb hc hn hm (M.1 (32, 0, 0, 0)) hQ n 0 (by omega)
/-- f would be other, if it were as g: by the reference's way -/
def stP (f g : Nat → Int32) (k : Nat) : Prop := f (12 * k) ≠ g (12 * k) ∨ f (12 * k + 1) ≠ g (12 * k + 1) ∨ f (12 * k + 3) ≠ g (12 * k + 3) ∨ ∃ n i, n ≤ 4 ∧ f (12 * k + 3) = nI n ∧ i < n ∧ ∀ j, j < n → g (12 * k + 4 + j) ≠ f (12 * k + 4 + i)
def sv12 (f : Nat → Int32) (k : Nat) (r : Nat → Int32) (m : Nat) : Nat → Int32 := fun i => if i < m then f (12 * k + i) else r i
theorem c9_159 {b c k : Nat} (hk : k < 24) {Q : Int32 → Mem → Prop} {M : Mem} {g f : Nat → Int32} {x4 : Int32} (h4 : x4 = 0 ∨ x4 = 1) (h33 : ∀ i, i < 12 → M.1 (33, 0, 0, 0) i = f (12 * k + i)) (hout : ∀ j, (j < 12 * k ∨ 12 * k + 12 ≤ j) → g j = f j) (hQ : Q x4 (mr M (32, 0, 0, 0) f)) : ∀ m i, i + m = 12 → w_X9_isStale_159 (nI b) (nI c) Q (m + 1) (nI (12 * k)) x4 (nI i) (mr M (32, 0, 0, 0) (fun j => if 12 * k ≤ j ∧ j < 12 * k + i then f j else g j)) := by
  intro m
  induction m with
  | zero =>
    intro i hi
    have : i = 12 := by omega
    subst this
    rw [w_X9_isStale_159, if_pos (by decide)]
    refine ⟨h4, ?_⟩
    have e : (fun j => if 12 * k ≤ j ∧ j < 12 * k + 12 then f j else g j) = f := by
      funext j
      split
      · rfl
      · exact hout j (by omega)
    rw [e]
    exact hQ
  | succ m ih =>
    intro i hi
    rw [w_X9_isStale_159, if_neg (by rw [nI_lel (by omega) (by omega)]; omega), nI_add]
    refine ⟨vpT (by omega) (by omega), vpT (by omega) (by omega), ?_⟩
    rw [nI_clamp (by omega), nI_clamp (by omega), mu_mr, mr_ne _ _ (by simp), h33 i (by omega), nI_1]
    have e : upd (fun j => if 12 * k ≤ j ∧ j < 12 * k + i then f j else g j) (12 * k + i) (f (12 * k + i)) = (fun j => if 12 * k ≤ j ∧ j < 12 * k + (i + 1) then f j else g j) := by
      funext j
      unfold upd
      dsimp only
      repeat' split
      all_goals first | rfl | (exfalso; omega) | (subst_vars; rfl)
    rw [e]
    exact ih (i + 1) (by omega)
