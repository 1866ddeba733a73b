/-! read of the reference: forward -/
theorem or_of_nn {a b : Prop} (h : ¬ (¬ a ∧ ¬ b)) : a ∨ b := by
  by_cases x : a
  · exact Or.inl x
  · exact Or.inr (Classical.byContradiction fun y => h ⟨x, y⟩)
theorem nIne {c d : Nat} (hc : c < 2 ^ 31) (hd : d < 2 ^ 31) (h : c ≠ d) : ¬ nI c = nI d := fun q => h ((nI_eq hc hd).mp q)
def nz (c : Nat) : Int32 := if c = 0 then -2000000 else nI c
theorem nz_0 : nz 0 = -2000000 := rfl
theorem nz_p {c : Nat} (h : c ≠ 0) : nz c = nI c := if_neg h
theorem trK_r (s : Int32) : trK s = 0 ∨ (10 ≤ trK s ∧ trK s ≤ 15) := by
  unfold trK
  repeat' split
  all_goals omega
theorem tmK_r (s : Int32) : tmK s ≤ 9 := by
  unfold tmK
  repeat' split
  all_goals omega
theorem c9_truthOf {s : Int32} {Q : Int32 → Mem → Prop} {M : Mem} (hQ : Q (nz (trK s)) M) : w_X9_truthOf s Q M := by
  unfold w_X9_truthOf
  by_cases e1 : s = 33
  · subst e1; rw [if_pos rfl]; exact hQ
  rw [if_neg e1]
  by_cases e2 : s = 38
  · subst e2; rw [if_pos rfl]; exact hQ
  rw [if_neg e2]
  by_cases e3 : s = 60
  · subst e3; rw [if_pos rfl]; exact hQ
  rw [if_neg e3]
  by_cases e4 : s = 61
  · subst e4; rw [if_pos rfl]; exact hQ
  rw [if_neg e4]
  by_cases e5 : s = 109
  · subst e5; rw [if_pos rfl]; exact hQ
  rw [if_neg e5]
  by_cases e6 : s = 124
  · subst e6; rw [if_pos rfl]; exact hQ
  rw [if_neg e6]
  have : trK s = 0 := by
    unfold trK
    rw [if_neg e3, if_neg e4, if_neg e2, if_neg e6, if_neg e1, if_neg e5]
  rw [this] at hQ
  exact hQ
theorem c9_termOf {s : Int32} {Q : Int32 → Mem → Prop} {M : Mem} (hQ : Q (nz (tmK s)) M) : w_X9_termOf s Q M := by
  by_cases hl : isL s
  · refine c9_in1 hl.1 hl.2 ?_
    rw [if_neg (by decide)]
    have : tmK s = 1 := by unfold tmK; rw [if_pos hl]
    rw [this] at hQ
    exact hQ
  · refine c9_in0 (or_of_nn hl) ?_
    rw [if_pos rfl]
    by_cases hd : isD s
    · refine c9_in1 hd.1 hd.2 ?_
      rw [if_neg (by decide)]
      have : tmK s = 2 := by unfold tmK; rw [if_neg hl, if_pos hd]
      rw [this] at hQ
      exact hQ
    · refine c9_in0 (or_of_nn hd) ?_
      rw [if_pos rfl]
      by_cases e1 : s = 35
      · subst e1; rw [if_pos rfl]; exact hQ
      rw [if_neg e1]
      by_cases e2 : s = 37
      · subst e2; rw [if_pos rfl]; exact hQ
      rw [if_neg e2]
      by_cases e3 : s = 42
      · subst e3; rw [if_pos rfl]; exact hQ
      rw [if_neg e3]
      by_cases e4 : s = 43
      · subst e4; rw [if_pos rfl]; exact hQ
      rw [if_neg e4]
      by_cases e5 : s = 45
      · subst e5; rw [if_pos rfl]; exact hQ
      rw [if_neg e5]
      by_cases e6 : s = 121
      · subst e6; rw [if_pos rfl]; exact hQ
      rw [if_neg e6]
      by_cases e7 : s = 126
      · subst e7; rw [if_pos rfl]; exact hQ
      rw [if_neg e7]
      have : tmK s = 0 := by
        unfold tmK
        rw [if_neg hl, if_neg hd, if_neg e1, if_neg e7, if_neg e4, if_neg e5, if_neg e3, if_neg e2, if_neg e6]
      rw [this] at hQ
      exact hQ
/-- what is pushed for a kind c -/
theorem c9_push {c k : Nat} (h1 : 1 ≤ c) (h2 : c ≤ 15) {Q : Int32 → Mem → Prop} {B : Int32 → Int32 → Mem → Prop} {M : Mem} {T : List Nat} (hT : T.length + 5 ≤ 200) (hA : stkA (M.1 (39, 0, 0, 0)) T) (hB : ∀ M1, onl M M1 [39] → stkA (M1.1 (39, 0, 0, 0)) (psh c ++ T) → B (nI (psh c ++ T).length) (nI (k + 1)) M1) : (if nI c = (3 : Int32) then w_X9_read_165 Q B (nI T.length) (nI k) (nI c) M else if nI c = (8 : Int32) then w_X9_read_165 Q B (nI T.length) (nI k) (nI c) M else if nI c = (15 : Int32) then w_X9_read_165 Q B (nI T.length) (nI k) (nI c) M else ∃ k0 : Nat, w_X9_read_228 Q B k0 (nI T.length) (nI k) (nI c) (0 : Int32) M) := by
  have a1 : nI T.length + 1 = nI (T.length + 1) := nI_1 _
  have a2 : nI T.length + 2 = nI (T.length + 2) := nI_al _ _
  have a3 : nI T.length + 3 = nI (T.length + 3) := nI_al _ _
  have three : ∀ v : Int32, ∀ M210 : Mem, M210 = (mu (mu (mu M (39, 0, 0, 0) T.length v) (39, 0, 0, 0) (T.length + 1) (4 : Int32)) (39, 0, 0, 0) (T.length + 2) (4 : Int32)) → onl M M210 [39] ∧ ∀ r : Nat, v = nI r → stkA (M210.1 (39, 0, 0, 0)) (r :: T) ∧ (r = 4 → stkA (M210.1 (39, 0, 0, 0)) (4 :: 4 :: 4 :: T)) := by
    intro v M210 e
    refine ⟨?_, fun r hr => ?_⟩
    · rw [e]
      exact ((onl.mr (l := [39]) (i := (39, 0, 0, 0)) _ (by simp)).tr (onl.mr _ (by simp))).tr (onl.mr _ (by simp))
    · have e39 : M210.1 (39, 0, 0, 0) = upd (upd (upd (M.1 (39, 0, 0, 0)) T.length v) (T.length + 1) 4) (T.length + 2) 4 := by rw [e, mu_row, mu_row, mu_row]
      have b0 : stkA (M210.1 (39, 0, 0, 0)) (r :: T) := by
        rw [e39]
        refine ⟨?_, stkA_upd (by omega) (stkA_upd (by omega) (stkA_upd (Nat.le_refl _) hA))⟩
        rw [upd_ne _ _ (by omega), upd_ne _ _ (by omega), upd_at]
        exact hr
      refine ⟨b0, fun e4 => ?_⟩
      subst e4
      refine ⟨?_, ?_, b0⟩
      · rw [e39, show (4 :: 4 :: T).length = T.length + 2 from rfl, upd_at]; rfl
      · rw [e39, show (4 :: T).length = T.length + 1 from rfl, upd_ne _ _ (by omega), upd_at]; rfl
  by_cases c3 : c = 3
  · subst c3
    rw [if_pos (show nI 3 = 3 from rfl)]
    unfold w_X9_read_165
    rw [if_pos (show nI 3 = 3 from rfl), a1, a2, a3, nI_clamp (by omega), nI_clamp (by omega), nI_clamp (by omega)]
    refine ⟨vpT (by omega) (by omega), vpT (by omega) (by omega), vpT (by omega) (by omega), fun M210 e => ?_⟩
    obtain ⟨f1, f2⟩ := three 4 M210 e
    rw [if_pos (show nI 3 = 3 from rfl)]
    intro x ex
    rw [ex]
    refine c9_228s (S := 4 :: 4 :: 4 :: T) (by omega) (by omega) (by simp; omega) ((f2 4 rfl).2 rfl) (fun M1 hf hs => ?_)
    have := hB M1 (f1.tr hf) hs
    rw [show innr 3 + (4 :: 4 :: 4 :: T).length = (psh 3 ++ T).length from by simp [innr, psh]]
    exact this
  rw [if_neg (show ¬ nI c = 3 from nIne (by omega) (by decide) c3)]
  by_cases c8 : c = 8
  · subst c8
    rw [if_pos (show nI 8 = 8 from rfl)]
    unfold w_X9_read_165
    rw [if_neg (show ¬ nI 8 = 3 by decide), if_pos (show nI 8 = 8 from rfl), a1, a2, a3, nI_clamp (by omega), nI_clamp (by omega), nI_clamp (by omega)]
    refine ⟨vpT (by omega) (by omega), vpT (by omega) (by omega), vpT (by omega) (by omega), fun M210 e => ?_⟩
    obtain ⟨f1, f2⟩ := three 5 M210 e
    rw [if_neg (show ¬ nI 8 = 3 by decide)]
    intro x ex
    rw [ex]
    refine c9_228s (S := 5 :: T) (by omega) (by omega) (by simp; omega) ((f2 5 rfl).1) (fun M1 hf hs => ?_)
    have := hB M1 (f1.tr hf) hs
    rw [show innr 8 + (5 :: T).length = (psh 8 ++ T).length from by simp [innr, psh]; omega]
    exact this
  rw [if_neg (show ¬ nI c = 8 from nIne (by omega) (by decide) c8)]
  by_cases c15 : c = 15
  · subst c15
    rw [if_pos (show nI 15 = 15 from rfl)]
    unfold w_X9_read_165
    rw [if_neg (show ¬ nI 15 = 3 by decide), if_neg (show ¬ nI 15 = 8 by decide), a1, a2, a3, nI_clamp (by omega), nI_clamp (by omega), nI_clamp (by omega)]
    refine ⟨vpT (by omega) (by omega), vpT (by omega) (by omega), vpT (by omega) (by omega), fun M210 e => ?_⟩
    obtain ⟨f1, f2⟩ := three 3 M210 e
    rw [if_neg (show ¬ nI 15 = 3 by decide)]
    intro x ex
    rw [ex]
    refine c9_228s (S := 3 :: T) (by omega) (by omega) (by simp; omega) ((f2 3 rfl).1) (fun M1 hf hs => ?_)
    have := hB M1 (f1.tr hf) hs
    rw [show innr 15 + (3 :: T).length = (psh 15 ++ T).length from by simp [innr, psh]]
    exact this
  rw [if_neg (show ¬ nI c = 15 from nIne (by omega) (by decide) c15)]
  have hp : List.replicate (innr c) (ptw c) = psh c := by
    have h : c = 1 ∨ c = 2 ∨ c = 4 ∨ c = 5 ∨ c = 6 ∨ c = 7 ∨ c = 9 ∨ c = 10 ∨ c = 11 ∨ c = 12 ∨ c = 13 ∨ c = 14 := by omega
    rcases h with h | h | h | h | h | h | h | h | h | h | h | h <;> subst h <;> decide
  refine c9_228s h1 h2 (by omega) hA (fun M1 hf hs => ?_)
  rw [hp] at hs
  have := hB M1 hf hs
  rw [List.length_append, ← hp, List.length_replicate] at this
  exact this
