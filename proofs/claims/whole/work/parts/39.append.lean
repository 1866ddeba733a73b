/-! append, remove and renew of a block of the class -/
theorem RB.col {M M1 : Mem} {s b c n : Nat} {rr g g2 : Nat → Int32} (hc : c < 4) (hB : RB M s b rr g n) (hf : fr3 M M1 s b c) (hR : RSum M1 s b c g2 (4 * b + c)) (ho : ∀ j, (j < 12 * (4 * b + c) ∨ 12 * (4 * b + c) + 12 ≤ j) → g2 j = g j) : RB M1 s b rr g2 n := by
  obtain ⟨h3, hn, h5, h7⟩ := hB
  refine ⟨by rw [hf.knd (by omega) (by omega) (by omega)]; exact h3, hn, fun r c' hr hc' => by rw [hf.knd (by omega) (by omega) (by omega)]; exact h5 r c' hr hc', fun c' hc' => ?_⟩
  by_cases e : c' = c
  · subst e; exact hR
  · exact (RSum.oth hf (by omega) (h7 c' hc')).row (fun j hj => ho _ (by omega))
theorem RB.fresh {M M1 : Mem} {s b n : Nat} {rr g : Nat → Int32} (hB : RB M s b rr g n) (hf : fr3 M M1 s b 4) : RB M1 s b rr g n := by
  obtain ⟨h3, hn, h5, h7⟩ := hB
  refine ⟨by rw [hf.knd (by omega) (by omega) (by omega)]; exact h3, hn, fun r c' hr hc' => by rw [hf.knd (by omega) (by omega) (by omega)]; exact h5 r c' hr hc', fun c' hc' => RSum.oth hf (by omega) (h7 c' hc')⟩
theorem leaveF_out {f : Nat → Int32} {k : Nat} {v : Int32} (h : okF f k) {j : Nat} (hj : j < 12 * k ∨ 12 * k + 12 ≤ j) : leaveF f k v j = f j := by
  unfold leaveF
  split
  · rw [upd_ne _ _ (by omega)]
  · split
    · rfl
    · rename_i h2
      split
      · rename_i h3
        rcases h with h | ⟨n, hn, h⟩
        · rw [h] at h2; exact absurd m1_lt h2
        · rw [h, nI_clamp (by omega)] at h3 ⊢
          rw [upd_ne _ _ (by omega)]
      · rfl
def adF (a kn : Nat → Int32) (b : Nat) : Nat → Nat → Int32
  | 0 => kn
  | c + 1 => comeF (adF a kn b c) (4 * b + c) (a c)
def ldF (rr kn : Nat → Int32) (b r : Nat) : Nat → Nat → Int32
  | 0 => kn
  | c + 1 => leaveF (ldF rr kn b r c) (4 * b + c) (rr (32 * b + 4 * r + c))
def awF (rr kn : Nat → Int32) (b n : Nat) : Nat → Nat → Int32
  | 0 => kn
  | c + 1 => anF rr (awF rr kn b n c) b c n
noncomputable def stI (f g : Nat → Int32) (k : Nat) : Int32 := @ite _ (stP f g k) (Classical.propDecidable _) 1 0
theorem stI_of {f g : Nat → Int32} {k : Nat} {r : Int32} (h : r = 0 ∨ r = 1) (h2 : r = 0 ↔ ¬ stP f g k) : r = stI f g k := by
  unfold stI
  by_cases hs : stP f g k
  · rw [if_pos hs]
    rcases h with h | h
    · exact absurd hs (h2.mp h)
    · exact h
  · rw [if_neg hs]
    exact h2.mpr hs
noncomputable def awN (rr kn : Nat → Int32) (b n : Nat) : Nat → Int32
  | 0 => 0
  | c + 1 => awN rr kn b n c + stI (awF rr kn b n c) (awF rr kn b n (c + 1)) (4 * b + c)
def rwA (rr : Nat → Int32) (b n : Nat) (a : Nat → Int32) (c : Nat) : Nat → Int32 := fun j => if 32 * b + 4 * n ≤ j ∧ j < 32 * b + 4 * n + c then a (j - (32 * b + 4 * n)) else rr j
def rwD (rr : Nat → Int32) (b r n : Nat) : Nat → Int32 := fun j => if 32 * b + 4 * r ≤ j ∧ j < 32 * b + 4 * (n - 1) then rr (j + 4) else rr j
theorem c0_append_47 {s b n : Nat} {a a' : Nat → Int32} {a1 a2 a3 a4 : Int32} (hn : n < 8) {Q : Int32 → Mem → Prop} {M0 : Mem} {rr kn : Nat → Int32} (hrow : ∀ c, c < 4 → a' c = a c) (hQ : ∀ M1, frB M0 M1 s b → RB M1 s b rr (adF a kn b 4) n → M1.1 (5, s, b, n) = a' → Q (nI (n + 1)) (mu M1 (3, s, b, 0) 0 (nI (n + 1)))) : ∀ m c M, c + m = 4 → frB M0 M s b → RB M s b rr (adF a kn b c) n → M.1 (5, s, b, n) = a' → w_X0_append_47 s b a1 a2 a3 a4 Q (m + 1) n (nI c) M := by
  intro m
  induction m with
  | zero =>
    intro c M hi hf hB h5
    have : c = 4 := by omega
    subst this
    rw [w_X0_append_47, if_pos (by decide), hB.1, nI_1, mu_row, upd_at]
    exact hQ M hf hB h5
  | succ m ih =>
    intro c M hi hf hB h5
    rw [w_X0_append_47, if_neg (by rw [nI_lel (by omega) (by omega)]; omega)]
    refine ⟨vpT (by omega) (by omega), vpT (by omega) (by omega), ?_⟩
    rw [nI_clamp (by omega), h5, hrow c (by omega)]
    refine c6_come (hB.2.2.2 c (by omega)) (fun M1 hf1 hR => ?_)
    rw [nI_1]
    refine ih (c + 1) M1 (by omega) (hf.tr hf1.B) (hB.col (by omega) hf1 hR (fun j hj => comeF_out (hB.2.2.2 c (by omega)).ok hj)) ?_
    rw [hf1.knd (by omega) (by omega) (by omega)]
    exact h5
theorem c0_append {s b n : Nat} {a : Nat → Int32} (hn : n < 8) {Q : Int32 → Mem → Prop} {M : Mem} {rr kn : Nat → Int32} (hB : RB M s b rr kn n) (hQ : ∀ M1, frB M M1 s b → RB M1 s b (rwA rr b n a 4) (adF a kn b 4) (n + 1) → Q (nI (n + 1)) M1) : w_X0_append s b (a 0) (a 1) (a 2) (a 3) Q M := by
  unfold w_X0_append
  rw [hB.1, if_pos (by rw [nI_ltr (by omega) (by omega)]; omega)]
  refine ⟨vpT (by omega) (by omega), fun M37 e => ⟨5, ?_⟩⟩
  rw [nI_clamp (by omega)] at e ⊢
  rw [mu_of0 M, mu_mr, mu_mr] at e
  obtain ⟨M2, e2⟩ : ∃ M2, M2 = mu M37 (5, s, b, n) 3 (a 3) := ⟨_, rfl⟩
  have e3 := e2
  rw [mu_of e] at e3
  rw [← e2]
  have hf2 : frB M M2 s b := by rw [e3]; exact frB.mr M _ (bC5 s b n)
  have n5 : ∀ t r, t ≠ 5 ∨ r ≠ n → M2.1 (t, s, b, r) = M.1 (t, s, b, r) := fun t r h => by
    rw [e3, mr_ne _ _ (by simp only [ne_eq, Prod.mk.injEq, true_and, not_and]; omega)]
  have hB2 : RB M2 s b rr (adF a kn b 0) n := by
    obtain ⟨h3, hn8, h5, h7⟩ := hB
    refine ⟨by rw [n5 _ _ (Or.inl (by omega))]; exact h3, hn8, fun r c hr hc => by rw [n5 _ _ (Or.inr (by omega))]; exact h5 r c hr hc, fun c hc => (h7 c hc).keep (n5 _ _ (Or.inl (by omega))) (n5 _ _ (Or.inl (by omega))) (n5 _ _ (Or.inl (by omega)))⟩
  have h0 := c0_append_47 (a := a) (a' := M2.1 (5, s, b, n)) (a1 := a 0) (a2 := a 1) (a3 := a 2) (a4 := a 3) (s := s) (b := b) (Q := Q) (M0 := M) (rr := rr) (kn := kn) hn (fun c hc => ?_) (fun M1 hf hB1 h5 => ?_) 4 0 M2 (by omega) hf2 hB2 rfl
  · exact h0
  · rw [e3, mr_at]
    unfold upd
    repeat' split
    all_goals first | (subst_vars; rfl) | (exfalso; omega)
  · have hc4 : ∀ c, c < 4 → M2.1 (5, s, b, n) c = a c := fun c hc => by
      rw [e3, mr_at]
      unfold upd
      repeat' split
      all_goals first | (subst_vars; rfl) | (exfalso; omega)
    refine hQ _ (hf.tr (frB.mr M1 _ (bC3 s b 0))) ?_
    obtain ⟨h3, hn8, g5, g7⟩ := hB1
    refine ⟨by rw [mu_row, upd_at], by omega, fun r c hr hc => ?_, fun c hc => (g7 c hc).keep (mu_ne _ _ _ (by simp)) (mu_ne _ _ _ (by simp)) (mu_ne _ _ _ (by simp))⟩
    rw [mu_ne _ _ _ (by simp)]
    unfold rwA
    by_cases er : r = n
    · subst er
      rw [h5, hc4 c hc, if_pos (by omega)]
      congr 1
      omega
    · rw [g5 r c (by omega) hc, if_neg (by omega)]
theorem c0_append_full {s b : Nat} {a1 a2 a3 a4 : Int32} {Q : Int32 → Mem → Prop} {M : Mem} (h : M.1 (3, s, b, 0) 0 = nI 8) (hQ : Q (-4) M) : w_X0_append s b a1 a2 a3 a4 Q M := by
  unfold w_X0_append
  rw [h, if_neg (by decide)]
  exact hQ
