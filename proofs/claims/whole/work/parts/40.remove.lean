/-! remove and renew -/
theorem c0_remove_34 {s b n r : Nat} {a1 : Int32} (hr : r < n) (hn : n ≤ 8) {Q : Int32 → Mem → Prop} {M0 : Mem} {rr g : Nat → Int32} (hQ : ∀ M1, frB M0 M1 s b → RB M1 s b (rwD rr b r n) g (n - 1) → Q (nI (n - 1)) M1) : ∀ m i M, i + m = n → r + 1 ≤ i → frB M0 M s b → M.1 (3, s, b, 0) 0 = nI n → (∀ c, c < 4 → RSum M s b c g (4 * b + c)) → (∀ q c, q < n → c < 4 → M.1 (5, s, b, q) c = if r ≤ q ∧ q < i - 1 then rr (32 * b + 4 * (q + 1) + c) else rr (32 * b + 4 * q + c)) → w_X0_remove_34 s b a1 Q (m + 1) (nI i) M := by
  intro m
  induction m with
  | zero =>
    intro i M hi hri hf h3 h7 h5
    have : i = n := by omega
    subst this
    rw [w_X0_remove_34, h3, if_pos (by rw [nI_leI (by omega) (by omega)]; omega), show nI i - 1 = nI (i - 1) from nI_sl (by omega), mu_row, upd_at]
    refine hQ _ (hf.tr (frB.mr M _ (bC3 s b 0))) ⟨by rw [mu_row, upd_at], by omega, fun q c hq hc => ?_, fun c hc => (h7 c hc).keep (mu_ne _ _ _ (by simp)) (mu_ne _ _ _ (by simp)) (mu_ne _ _ _ (by simp))⟩
    rw [mu_ne _ _ _ (by simp), h5 q c (by omega) hc]
    unfold rwD
    by_cases hq2 : r ≤ q
    · rw [if_pos (by omega), if_pos (by omega)]
      congr 1
      omega
    · rw [if_neg (by omega), if_neg (by omega)]
  | succ m ih =>
    intro i M hi hri hf h3 h7 h5
    rw [w_X0_remove_34, h3, if_neg (by rw [nI_leI (by omega) (by omega)]; omega), show nI i - 1 = nI (i - 1) from nI_sl (by omega)]
    refine ⟨vpT (by omega) (by omega), vpT (by omega) (by omega), fun M59 e => ?_⟩
    rw [nI_clamp (by omega), nI_clamp (by omega)] at e
    rw [nI_1]
    refine ih (i + 1) M59 (by omega) (by omega) ?_ ?_ ?_ ?_
    · rw [e]; exact hf.tr (frB.mr M _ (bC5 s b _))
    · rw [e, mr_ne _ _ (by simp)]; exact h3
    · intro c hc
      rw [e]
      exact (h7 c hc).keep (mr_ne _ _ (by simp)) (mr_ne _ _ (by simp)) (mr_ne _ _ (by simp))
    · intro q c hq hc
      rw [e]
      by_cases eq : q = i - 1
      · subst eq
        rw [mr_at, cpy4 _ _ hc, h5 i c (by omega) hc, if_neg (by omega), if_pos (by omega)]
        congr 1
        omega
      · rw [mr_ne _ _ (by simp [eq]), h5 q c hq hc]
        by_cases hq2 : r ≤ q ∧ q < i - 1
        · rw [if_pos hq2, if_pos (by omega)]
        · rw [if_neg hq2, if_neg (by omega)]
theorem c0_remove_2 {s b n r : Nat} (hr : r < n) {Q : Int32 → Mem → Prop} {M0 : Mem} {rr kn : Nat → Int32} (hQ : ∀ M1, frB M0 M1 s b → RB M1 s b (rwD rr b r n) (ldF rr kn b r 4) (n - 1) → Q (nI (n - 1)) M1) : ∀ m c M, c + m = 4 → frB M0 M s b → RB M s b rr (ldF rr kn b r c) n → w_X0_remove_2 s b (nI r) Q (m + 1) (nI c) M := by
  intro m
  induction m with
  | zero =>
    intro c M hi hf hB
    have : c = 4 := by omega
    subst this
    rw [w_X0_remove_2, if_pos (by decide)]
    intro x e
    rw [nI_1] at e
    subst e
    obtain ⟨h3, hn, h5, h7⟩ := hB
    refine ⟨n - r, ?_⟩
    obtain ⟨m, hm⟩ : ∃ m, n - r = m + 1 := ⟨n - r - 1, by omega⟩
    rw [hm]
    refine c0_remove_34 hr hn hQ m (r + 1) M (by omega) (by omega) hf h3 h7 (fun q c hq hc => ?_)
    rw [if_neg (by omega)]
    exact h5 q c hq hc
  | succ m ih =>
    intro c M hi hf hB
    have hn := hB.2.1
    rw [w_X0_remove_2, if_neg (by rw [nI_lel (by omega) (by omega)]; omega)]
    refine ⟨vpT (by omega) (by omega), vpT (by omega) (by omega), vpT (by omega) (by omega), ?_⟩
    rw [nI_clamp (by omega), nI_clamp (by omega), hB.2.2.1 r c hr (by omega)]
    refine c6_leave (hB.2.2.2 c (by omega)) (fun M1 hf1 hR => ?_)
    rw [nI_1]
    exact ih (c + 1) M1 (by omega) (hf.tr hf1.B) (hB.col (by omega) hf1 hR (fun j hj => leaveF_out (hB.2.2.2 c (by omega)).ok hj))
theorem c0_remove {s b n r : Nat} (hr : r < n) {Q : Int32 → Mem → Prop} {M : Mem} {rr kn : Nat → Int32} (hB : RB M s b rr kn n) (hQ : ∀ M1, frB M M1 s b → RB M1 s b (rwD rr b r n) (ldF rr kn b r 4) (n - 1) → Q (nI (n - 1)) M1) : w_X0_remove s b (nI r) Q M :=
  ⟨5, c0_remove_2 hr hQ 4 0 M (by omega) frB.rf hB⟩
theorem c0_renew_4 {s b n : Nat} {Q : Int32 → Mem → Prop} {M0 : Mem} {rr kn : Nat → Int32} (hnd : ∀ c, c < 4 → ndF kn (4 * b + c)) (hQ : ∀ M1, frB M0 M1 s b → RB M1 s b rr (awF rr kn b n 4) n → Q (awN rr kn b n 4) M1) : ∀ m c M, c + m = 4 → frB M0 M s b → RB M s b rr (awF rr kn b n c) n → (∀ c', c ≤ c' → c' < 4 → ndF (awF rr kn b n c) (4 * b + c')) → w_X0_renew_4 s b Q (m + 1) (awN rr kn b n c) (nI c) M := by
  intro m
  induction m with
  | zero =>
    intro c M hi hf hB _
    have : c = 4 := by omega
    subst this
    rw [w_X0_renew_4, if_pos (by decide)]
    exact hQ M hf hB
  | succ m ih =>
    intro c M hi hf hB hd
    rw [w_X0_renew_4, if_neg (by rw [nI_lel (by omega) (by omega)]; omega)]
    refine c0_isStale (by omega) hB (hd c (Nat.le_refl c) (by omega)) (fun r M1 h0 h1 hf1 hR1 => ?_)
    have hr := stI_of h0 h1
    have hB1 := hB.fresh hf1
    have ho : ∀ j, (j < 12 * (4 * b + c) ∨ 12 * (4 * b + c) + 12 ≤ j) → awF rr kn b n (c + 1) j = awF rr kn b n c j := fun j hj => anF_out _ _ _ _ hj n
    have step : ∀ x, x = awN rr kn b n (c + 1) → w_X6_copyFrom s b c s b 4 (fun M30 => w_X0_renew_4 s b Q (m + 1) x (nI c + 1) M30) M1 := by
      intro x ex
      rw [ex]
      refine c6_copyFrom (by omega) hR1 (fun M2 hf2 hR2 => ?_)
      rw [nI_1]
      refine ih (c + 1) M2 (by omega) ((hf.tr hf1.B).tr hf2.B) (hB1.col (by omega) hf2 hR2 ho) (fun c' hc' h4 => ?_)
      exact ndF_same (hd c' (by omega) h4) (ho _ (by omega)) (fun j hj => ho _ (by omega))
    have eN : awN rr kn b n (c + 1) = awN rr kn b n c + r := by rw [hr]; rfl
    rcases h0 with h0 | h0
    · rw [if_pos h0]
      refine ⟨vpT (by omega) (by omega), ?_⟩
      rw [nI_clamp (by omega)]
      exact step _ (by rw [eN, h0]; exact (Int32.add_zero _).symm)
    · rw [if_neg (by rw [h0]; decide)]
      refine ⟨vpT (by omega) (by omega), ?_⟩
      rw [nI_clamp (by omega)]
      exact step _ (by rw [eN, h0])
theorem c0_renew {s b n : Nat} {Q : Int32 → Mem → Prop} {M : Mem} {rr kn : Nat → Int32} (hB : RB M s b rr kn n) (hnd : ∀ c, c < 4 → ndF kn (4 * b + c)) (hQ : ∀ M1, frB M M1 s b → RB M1 s b rr (awF rr kn b n 4) n → Q (awN rr kn b n 4) M1) : w_X0_renew s b Q M :=
  ⟨5, c0_renew_4 hnd hQ 4 0 M (by omega) frB.rf hB (fun c _ hc => hnd c hc)⟩
