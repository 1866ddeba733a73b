/-! copies of blocks and of stores -/
theorem frB.oth {M M1 : Mem} {s b : Nat} (h : frB M M1 s b) {t s1 b1 c : Nat} (hne : ¬ (s1 = s ∧ b1 = b)) : M1.1 (t, s1, b1, c) = M.1 (t, s1, b1, c) := h.1 _ (fun hj => hne hj.2)
theorem frB.knd {M M1 : Mem} {s b : Nat} (h : frB M M1 s b) {t s1 b1 c : Nat} (h3 : t ≠ 3) (h5 : t ≠ 5) (h7 : t < 7 ∨ 9 < t) : M1.1 (t, s1, b1, c) = M.1 (t, s1, b1, c) := h.1 _ (fun hj => by
  have := hj.1
  dsimp only at this
  omega)
theorem RB.oth {M M1 : Mem} {s b : Nat} (h : frB M M1 s b) {s1 b1 n : Nat} {rr kn : Nat → Int32} (hne : ¬ (s1 = s ∧ b1 = b)) (hB : RB M s1 b1 rr kn n) : RB M1 s1 b1 rr kn n := by
  obtain ⟨h3, hn, h5, h7⟩ := hB
  exact ⟨by rw [h.oth hne]; exact h3, hn, fun r c hr hc => by rw [h.oth hne]; exact h5 r c hr hc, fun c hc => (h7 c hc).keep (h.oth hne) (h.oth hne) (h.oth hne)⟩
theorem RB.keep {M M1 : Mem} {s b n : Nat} {rr kn : Nat → Int32} (h : ∀ t c, M1.1 (t, s, b, c) = M.1 (t, s, b, c)) (hB : RB M s b rr kn n) : RB M1 s b rr kn n := by
  obtain ⟨h3, hn, h5, h7⟩ := hB
  exact ⟨by rw [h]; exact h3, hn, fun r c hr hc => by rw [h]; exact h5 r c hr hc, fun c hc => (h7 c hc).keep (h _ _) (h _ _) (h _ _)⟩
theorem RB.row {M : Mem} {s b n : Nat} {rr kn rr2 kn2 : Nat → Int32} (hB : RB M s b rr kn n) (h1 : ∀ j, j < 4 * n → rr2 (32 * b + j) = rr (32 * b + j)) (h2 : ∀ j, j < 48 → kn2 (48 * b + j) = kn (48 * b + j)) : RB M s b rr2 kn2 n := by
  obtain ⟨h3, hn, h5, h7⟩ := hB
  refine ⟨h3, hn, fun r c hr hc => ?_, fun c hc => (h7 c hc).row (fun j hj => ?_)⟩
  · rw [h5 r c hr hc, Nat.add_assoc, h1 _ (by omega)]
  · have := h2 (12 * c + j) (by omega)
    rw [show 12 * (4 * b + c) + j = 48 * b + (12 * c + j) by omega]
    exact this
theorem c0_copyFrom_42 {s s1 b n : Nat} (hs : s1 ≠ s) {Q : Mem → Prop} {M0 : Mem} {rr kn : Nat → Int32} (h0 : RB M0 s1 b rr kn n) (hQ : ∀ M1, frB M0 M1 s b → RB M1 s b rr kn n → Q M1) : ∀ m i M, i + m = 4 → frB M0 M s b → M.1 (3, s, b, 0) 0 = nI n → (∀ r c, r < n → c < 4 → M.1 (5, s, b, r) c = rr (32 * b + 4 * r + c)) → (∀ c, c < i → RSum M s b c kn (4 * b + c)) → w_X0_copyFrom_42 s b s1 b Q (m + 1) (nI i) M := by
  intro m
  induction m with
  | zero =>
    intro i M hi hf h3 h5 h7
    have : i = 4 := by omega
    subst this
    rw [w_X0_copyFrom_42, if_pos (by decide)]
    exact hQ M hf ⟨h3, h0.2.1, h5, h7⟩
  | succ m ih =>
    intro i M hi hf h3 h5 h7
    rw [w_X0_copyFrom_42, if_neg (by rw [nI_lel (by omega) (by omega)]; omega)]
    refine ⟨vpT (by omega) (by omega), vpT (by omega) (by omega), ?_⟩
    rw [nI_clamp (by omega), nI_1]
    have h1 := (RB.oth hf (fun h => hs h.1) h0).2.2.2 i (by omega)
    refine c6_copyFrom (fun h => hs h.1) h1 (fun M1 hf1 hR => ?_)
    refine ih (i + 1) M1 (by omega) (hf.tr hf1.B) ?_ (fun r c hr hc => ?_) (fun c hc => ?_)
    · rw [hf1.knd (by omega) (by omega) (by omega)]; exact h3
    · rw [hf1.knd (by omega) (by omega) (by omega)]; exact h5 r c hr hc
    · by_cases e : c = i
      · subst e; exact hR
      · exact RSum.oth hf1 (by omega) (h7 c (by omega))
theorem c0_copyFrom_10 {s s1 b n : Nat} (hs : s1 ≠ s) {Q : Mem → Prop} {M0 : Mem} {rr kn : Nat → Int32} (h0 : RB M0 s1 b rr kn n) (hQ : ∀ M1, frB M0 M1 s b → RB M1 s b rr kn n → Q M1) : ∀ m i M, i + m = 8 → frB M0 M s b → M.1 (3, s, b, 0) 0 = nI n → (∀ r c, r < n → r < i → c < 4 → M.1 (5, s, b, r) c = rr (32 * b + 4 * r + c)) → w_X0_copyFrom_10 s b s1 b Q (m + 1) (nI i) M := by
  intro m
  induction m with
  | zero =>
    intro i M hi hf h3 h5
    have : i = 8 := by omega
    subst this
    rw [w_X0_copyFrom_10, if_pos (by decide)]
    have hn := h0.2.1
    exact ⟨5, c0_copyFrom_42 hs h0 hQ 4 0 M (by omega) hf h3 (fun r c hr hc => h5 r c hr (by omega) hc) (fun c hc => absurd hc (Nat.not_lt_zero c))⟩
  | succ m ih =>
    intro i M hi hf h3 h5
    rw [w_X0_copyFrom_10, if_neg (by rw [nI_lel (by omega) (by omega)]; omega)]
    refine ⟨vpT (by omega) (by omega), vpT (by omega) (by omega), ?_⟩
    rw [nI_clamp (by omega), nI_1]
    refine ih (i + 1) _ (by omega) (hf.tr (frB.mr M _ (bC5 s b i))) ?_ (fun r c hr hri hc => ?_)
    · rw [mr_ne _ _ (by simp)]; exact h3
    · by_cases e : r = i
      · subst e
        rw [mr_at, cpy4 _ _ hc, hf.oth (fun h => hs h.1)]
        exact h0.2.2.1 r c hr hc
      · rw [mr_ne _ _ (by simp [e])]
        exact h5 r c hr (by omega) hc
theorem c0_copyFrom {s s1 b n : Nat} (hs : s1 ≠ s) {Q : Mem → Prop} {M : Mem} {rr kn : Nat → Int32} (h0 : RB M s1 b rr kn n) (hQ : ∀ M1, frB M M1 s b → RB M1 s b rr kn n → Q M1) : w_X0_copyFrom s b s1 b Q M := by
  refine ⟨9, c0_copyFrom_10 hs h0 hQ 8 0 _ (by omega) (frB.mr M _ (bC3 s b 0)) ?_ (fun r c _ h _ => absurd h (Nat.not_lt_zero r))⟩
  rw [mu_row, upd_at]
  exact h0.1
def frS (M M1 : Mem) (s : Nat) : Prop := (∀ i, ¬ ((1 ≤ i.1 ∧ i.1 ≤ 9) ∧ i.2.1 = s) → M1.1 i = M.1 i) ∧ M1.2 = M.2
theorem frS.rf {M : Mem} {s : Nat} : frS M M s := ⟨fun _ _ => rfl, rfl⟩
theorem frS.tr {M M1 M2 : Mem} {s : Nat} (h : frS M M1 s) (h2 : frS M1 M2 s) : frS M M2 s := ⟨fun i hi => (h2.1 i hi).trans (h.1 i hi), h2.2.trans h.2⟩
theorem frB.S {M M1 : Mem} {s b : Nat} (h : frB M M1 s b) : frS M M1 s := ⟨fun i hi => h.1 i (fun hj => hi ⟨by rcases hj.1 with e | e | e | e | e <;> omega, hj.2.1⟩), h.2⟩
theorem frS.oth {M M1 : Mem} {s : Nat} (h : frS M M1 s) {t s1 b1 c : Nat} (hne : s1 ≠ s) : M1.1 (t, s1, b1, c) = M.1 (t, s1, b1, c) := h.1 _ (fun hj => hne hj.2)
theorem c5_copyFrom_2 {s s1 : Nat} (hs : s1 ≠ s) {Q : Mem → Prop} {M0 : Mem} {rr kn : Nat → Int32} {mn : Nat → Nat} (h0 : ∀ b, b < 6 → RB M0 s1 b rr kn (mn b)) (hQ : ∀ M1, frS M0 M1 s → (∀ b, b < 6 → RB M1 s b rr kn (mn b)) → Q M1) : ∀ m i M, i + m = 6 → frS M0 M s → (∀ b, b < i → RB M s b rr kn (mn b)) → w_X5_copyFrom_2 s s1 Q (m + 1) (nI i) M := by
  intro m
  induction m with
  | zero =>
    intro i M hi hf h
    have : i = 6 := by omega
    subst this
    rw [w_X5_copyFrom_2, if_pos (by decide)]
    exact hQ M hf h
  | succ m ih =>
    intro i M hi hf h
    rw [w_X5_copyFrom_2, if_neg (by rw [nI_lel (by omega) (by omega)]; omega)]
    refine ⟨vpT (by omega) (by omega), vpT (by omega) (by omega), ?_⟩
    rw [nI_clamp (by omega), nI_1]
    refine c0_copyFrom hs ((h0 i (by omega)).keep (fun t c => hf.oth hs)) (fun M1 hf1 hB => ?_)
    refine ih (i + 1) M1 (by omega) (hf.tr hf1.S) (fun b hb => ?_)
    by_cases e : b = i
    · subst e; exact hB
    · exact RB.oth hf1 (by omega) (h b (by omega))
theorem c5_copyFrom {s s1 : Nat} (hs : s1 ≠ s) {Q : Mem → Prop} {M : Mem} {rr kn : Nat → Int32} {mn : Nat → Nat} (h0 : ∀ b, b < 6 → RB M s1 b rr kn (mn b)) (hQ : ∀ M1, frS M M1 s → (∀ b, b < 6 → RB M1 s b rr kn (mn b)) → Q M1) : w_X5_copyFrom s s1 Q M :=
  ⟨7, c5_copyFrom_2 hs h0 hQ 6 0 M (by omega) frS.rf (fun b hb => absurd hb (Nat.not_lt_zero b))⟩
