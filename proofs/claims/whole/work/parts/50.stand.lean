/-! canStand -/
def frC (M M1 : Mem) (n r : Nat) : Prop := onl M M1 [11, 13, 17] ∧ (∀ j, j ≠ 7 → M1.1 (11, 0, 0, 0) j = M.1 (11, 0, 0, 0) j) ∧ M1.1 (13, 0, 0, 0) = upd (M.1 (13, 0, 0, 0)) n (nI r)
theorem frC.p {M M1 M2 : Mem} {n r : Nat} (h : frC M M1 n r) (h2 : frP M1 M2) : frC M M2 n r := ⟨h.1.tr (h2.1.sub (by simp)), fun j hj => (h2.2 j hj).trans (h.2.1 j hj), by rw [h2.1.1 _ (by simp)]; exact h.2.2⟩
theorem knd5 (s : Int32) : knd 5 s = if isD s ∧ s ≠ 48 then 18 else 0 := rfl
theorem c1_canStand {r n : Nat} {T : List Nat} {s : Int32} (hr : 1 ≤ r ∧ r ≤ 5) (hT : T.length < 119) (hn : n < 60) {Q : Int32 → Mem → Prop} {M : Mem} (h : PS M (r :: T)) (h0 : M.1 (11, 0, 0, 0) 0 = nI n) (hQ1 : knd r s ≠ 0 → ∀ M1, frC M M1 n r → PS M1 (psh (knd r s) ++ T) → Q 1 M1) (hQ0 : knd r s = 0 → ∀ M1, frC M M1 n r → Q 0 M1) : w_X1_canStand s Q M := by
  unfold w_X1_canStand
  have e7 : M.1 (11, 0, 0, 0) 7 = nI (T.length + 1) := h.1
  rw [e7, if_neg (nI_ne0 (by omega) (by omega)), show nI (T.length + 1) - 1 = nI T.length from nI_pred _]
  have a7 : (mu M (11, 0, 0, 0) 7 (nI T.length)).1 (11, 0, 0, 0) 7 = nI T.length := by rw [mu_row, upd_at]
  have a0 : (mu M (11, 0, 0, 0) 7 (nI T.length)).1 (11, 0, 0, 0) 0 = nI n := by rw [mu_row, upd_ne _ _ (by omega)]; exact h0
  rw [a7, a0]
  refine ⟨vpT (by omega) (by omega), fun x2 e2 => ⟨vpT (by omega) (by omega), fun M38 e => ?_⟩⟩
  rw [nI_clamp (by omega), mu_ne _ _ _ (by simp), h.2.1] at e2
  subst e2
  rw [nI_clamp (by omega)] at e
  have f38 : frC M M38 n r := by
    rw [e]
    refine ⟨(onl.mr (l := [11, 13, 17]) (i := (11, 0, 0, 0)) _ (by simp)).tr (onl.mr _ (by simp)), fun j hj => ?_, ?_⟩
    · rw [mu_ne _ _ _ (by simp), mu_row, upd_ne _ _ hj]
    · rw [mu_row, mu_ne _ _ _ (by simp)]
  have p38 : PS M38 T := by
    rw [e]
    refine ⟨?_, ?_⟩
    · rw [mu_ne _ _ _ (by simp), mu_row, upd_at]
    · rw [mu_ne _ _ _ (by simp), mu_ne _ _ _ (by simp)]; exact h.2.2
  have one : ∀ x : Nat, x ≤ 5 → (nI r = nI x ↔ r = x) := fun x hx => nI_eq (by omega) (by omega)
  by_cases e1 : r = 1
  · subst e1
    rw [if_pos (show nI 1 = 1 from rfl)]
    exact c1_truth hT p38 (fun M1 f1 h1 hk => ⟨Or.inr rfl, hQ1 hk M1 (f38.p f1) h1⟩) (fun hk => ⟨Or.inl rfl, hQ0 hk M38 f38⟩)
  rw [if_neg (show ¬ nI r = 1 from fun q => e1 ((one 1 (by omega)).mp q))]
  by_cases e2 : r = 2
  · subst e2
    rw [if_pos (show nI 2 = 2 from rfl)]
    exact c1_term hT p38 (fun M1 f1 h1 hk => ⟨Or.inr rfl, hQ1 hk M1 (f38.p f1) h1⟩) (fun hk => ⟨Or.inl rfl, hQ0 hk M38 f38⟩)
  rw [if_neg (show ¬ nI r = 2 from fun q => e2 ((one 2 (by omega)).mp q))]
  by_cases e3 : r = 3
  · subst e3
    rw [if_pos (show nI 3 = 3 from rfl)]
    refine c8_isLetter (fun hl => ⟨Or.inr rfl, ?_⟩) (fun hl => ⟨Or.inl rfl, hQ0 (if_neg hl) M38 f38⟩)
    have ek : knd 3 s = 16 := if_pos hl
    rw [ek] at hQ1
    exact hQ1 (by omega) M38 f38 p38
  rw [if_neg (show ¬ nI r = 3 from fun q => e3 ((one 3 (by omega)).mp q))]
  by_cases e4 : r = 4
  · subst e4
    rw [if_pos (show nI 4 = 4 from rfl)]
    refine c8_isFigure (fun hl => ⟨Or.inr rfl, ?_⟩) (fun hl => ⟨Or.inl rfl, hQ0 (if_neg hl) M38 f38⟩)
    have ek : knd 4 s = 17 := if_pos hl
    rw [ek] at hQ1
    exact hQ1 (by omega) M38 f38 p38
  rw [if_neg (show ¬ nI r = 4 from fun q => e4 ((one 4 (by omega)).mp q))]
  have e5 : r = 5 := by omega
  subst e5
  refine c8_isFigure (fun hl => ?_) (fun hl => ?_)
  · rw [if_neg (by decide)]
    by_cases e8 : s = 48
    · rw [if_pos e8]
      exact hQ0 (by rw [knd5, if_neg (fun q => q.2 e8)]) M38 f38
    · rw [if_neg e8]
      have ek : knd 5 s = 18 := by rw [knd5, if_pos ⟨hl, e8⟩]
      rw [ek] at hQ1
      exact hQ1 (by omega) M38 f38 p38
  · rw [if_pos rfl]
    exact hQ0 (by rw [knd5, if_neg (fun q => hl q.1)]) M38 f38
theorem c1_canStand_e {s : Int32} {Q : Int32 → Mem → Prop} {M : Mem} (h : PS M []) (hQ : Q 0 M) : w_X1_canStand s Q M := by
  unfold w_X1_canStand
  rw [show M.1 (11, 0, 0, 0) 7 = 0 from h.1, if_pos rfl]
  exact hQ
/-! signs: what the class asks of them -/
abbrev hsP (s : Int32) : Prop := s = 43 ∨ s = 45 ∨ s = 42 ∨ s = 37 ∨ s = 60 ∨ s = 61 ∨ s = 38 ∨ s = 124
theorem c8_hasSecond {s : Int32} {Q : Int32 → Mem → Prop} {M : Mem} (h1 : hsP s → Q 1 M) (h0 : ¬ hsP s → Q 0 M) : w_X8_hasSecond s Q M := by
  unfold w_X8_hasSecond w_X8_isSum
  by_cases e1 : s = 43
  · simp only [if_pos e1]; rw [if_neg (by decide)]; exact h1 (Or.inl e1)
  simp only [if_neg e1]
  by_cases e2 : s = 45
  · simp only [if_pos e2]; rw [if_neg (by decide)]; exact h1 (Or.inr (Or.inl e2))
  simp only [if_neg e2]
  by_cases e3 : s = 42
  · simp only [if_pos e3]; rw [if_neg (by decide)]; exact h1 (Or.inr (Or.inr (Or.inl e3)))
  simp only [if_neg e3]
  rw [if_pos trivial]
  by_cases e4 : s = 37
  · rw [if_pos e4]; exact h1 (by simp [hsP, e4])
  rw [if_neg e4]
  by_cases e5 : s = 60
  · rw [if_pos e5]; exact h1 (by simp [hsP, e5])
  rw [if_neg e5]
  by_cases e6 : s = 61
  · rw [if_pos e6]; exact h1 (by simp [hsP, e6])
  rw [if_neg e6]
  by_cases e7 : s = 38
  · rw [if_pos e7]; exact h1 (by simp [hsP, e7])
  rw [if_neg e7]
  by_cases e8 : s = 124
  · rw [if_pos e8]; exact h1 (by simp [hsP, e8])
  rw [if_neg e8]
  exact h0 (by simp [hsP, e1, e2, e3, e4, e5, e6, e7, e8])
def sgB (r m : Nat) : Bool := r == 0 || knd r (nI m) == 0 || ((decide (hsP (nI m)) == ((psh (knd r (nI m))).length == 2)) && (decide (nI m = 126 ∨ nI m = 121 ∨ nI m = 33 ∨ nI m = 109) == ((psh (knd r (nI m))).length == 1)) && (decide (nI m = 35) == (knd r (nI m) == 3)) && (decide (nI m = 37) == (knd r (nI m) == 8)))
theorem sg_all : (List.range 6).all (fun r => (List.range 127).all (fun m => sgB r m)) = true := by decide +kernel
theorem sg {r : Nat} {s : Int32} (hr : 1 ≤ r ∧ r ≤ 5) (hs : ∃ m, 33 ≤ m ∧ m < 127 ∧ s = nI m) (hk : knd r s ≠ 0) : (hsP s ↔ (psh (knd r s)).length = 2) ∧ ((s = 126 ∨ s = 121 ∨ s = 33 ∨ s = 109) ↔ (psh (knd r s)).length = 1) ∧ (s = 35 ↔ knd r s = 3) ∧ (s = 37 ↔ knd r s = 8) := by
  obtain ⟨m, -, hm, e⟩ := hs
  subst e
  have h := sg_all
  rw [List.all_eq_true] at h
  have h := h r (List.mem_range.mpr (by omega))
  rw [List.all_eq_true] at h
  have h := h m (List.mem_range.mpr hm)
  unfold sgB at h
  have hr0 : r ≠ 0 := by omega
  simp only [Bool.or_eq_true, Bool.and_eq_true, beq_iff_eq, hr0, hk, false_or, decide_eq_decide] at h
  obtain ⟨⟨⟨h1, h2⟩, h3⟩, h4⟩ := h
  refine ⟨?_, ?_, ?_, ?_⟩
  · rw [Bool.eq_iff_iff] at h1
    simpa using h1
  · rw [Bool.eq_iff_iff] at h2
    simpa using h2
  · rw [Bool.eq_iff_iff] at h3
    simpa using h3
  · rw [Bool.eq_iff_iff] at h4
    simpa using h4
