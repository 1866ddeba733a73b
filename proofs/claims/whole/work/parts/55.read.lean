/-! read of the reference: forward -/
def innr (c : Nat) : Nat := if c = 4 ∨ c = 8 ∨ c = 9 ∨ c = 14 then 1 else if c = 1 ∨ c = 2 ∨ c = 3 ∨ c = 15 then 0 else 2
theorem c15 {c : Nat} (h : 1 ≤ c) (h2 : c ≤ 15) : c = 1 ∨ c = 2 ∨ c = 3 ∨ c = 4 ∨ c = 5 ∨ c = 6 ∨ c = 7 ∨ c = 8 ∨ c = 9 ∨ c = 10 ∨ c = 11 ∨ c = 12 ∨ c = 13 ∨ c = 14 ∨ c = 15 := by omega
theorem c9_inner {c : Nat} (h : 1 ≤ c) (h2 : c ≤ 15) {Q : Int32 → Mem → Prop} {M : Mem} (hQ : Q (nI (innr c)) M) : w_X9_inner (nI c) Q M := by
  have one : ∀ x : Nat, x ≤ 15 → (nI c = nI x ↔ c = x) := fun x hx => nI_eq (by omega) (by omega)
  have e4 : nI c = 4 ↔ c = 4 := one 4 (by omega)
  have e8 : nI c = 8 ↔ c = 8 := one 8 (by omega)
  have e9 : nI c = 9 ↔ c = 9 := one 9 (by omega)
  have e14 : nI c = 14 ↔ c = 14 := one 14 (by omega)
  have e1 : nI c = 1 ↔ c = 1 := one 1 (by omega)
  have e2 : nI c = 2 ↔ c = 2 := one 2 (by omega)
  have e3 : nI c = 3 ↔ c = 3 := one 3 (by omega)
  have e15 : nI c = 15 ↔ c = 15 := one 15 (by omega)
  unfold w_X9_inner
  unfold innr at hQ
  simp only [e4, e8, e9, e14, e1, e2, e3, e15]
  by_cases a4 : c = 4
  · subst a4; exact hQ
  by_cases a8 : c = 8
  · subst a8; exact hQ
  by_cases a9 : c = 9
  · subst a9; exact hQ
  by_cases a14 : c = 14
  · subst a14; exact hQ
  by_cases a1 : c = 1
  · subst a1; exact hQ
  by_cases a2 : c = 2
  · subst a2; exact hQ
  by_cases a3 : c = 3
  · subst a3; exact hQ
  by_cases a15 : c = 15
  · subst a15; exact hQ
  rw [if_neg a4, if_neg a8, if_neg a9, if_neg a14, if_neg a1, if_neg a2, if_neg a3, if_neg a15]
  rw [if_neg (by omega), if_neg (by omega)] at hQ
  exact hQ
def ptw (c : Nat) : Nat := if c = 12 ∨ c = 13 ∨ c = 14 then 1 else 2
theorem rep_s (n v : Nat) (S : List Nat) : List.replicate (n + 1) v ++ S = v :: (List.replicate n v ++ S) := rfl
theorem c9_228 {c k : Nat} (h1 : 1 ≤ c) (h2 : c ≤ 15) {Q : Int32 → Mem → Prop} {B : Int32 → Int32 → Mem → Prop} {M0 : Mem} {S : List Nat} (hS : S.length + 2 ≤ 200) (hB : ∀ M1, onl M0 M1 [39] → stkA (M1.1 (39, 0, 0, 0)) (List.replicate (innr c) (ptw c) ++ S) → B (nI (innr c + S.length)) (nI (k + 1)) M1) : ∀ m i M, i + m = innr c → onl M0 M [39] → stkA (M.1 (39, 0, 0, 0)) (List.replicate i (ptw c) ++ S) → w_X9_read_228 Q B (m + 1) (nI (i + S.length)) (nI k) (nI c) (nI i) M := by
  have h12 : innr c ≤ 2 := by
    unfold innr
    repeat' split
    all_goals omega
  have one : ∀ x : Nat, x ≤ 15 → (nI c = nI x ↔ c = x) := fun x hx => nI_eq (by omega) (by omega)
  have e12 : nI c = 12 ↔ c = 12 := one 12 (by omega)
  have e13 : nI c = 13 ↔ c = 13 := one 13 (by omega)
  have e14 : nI c = 14 ↔ c = 14 := one 14 (by omega)
  intro m
  induction m with
  | zero =>
    intro i M hi hf hA
    have : i = innr c := by omega
    subst this
    rw [w_X9_read_228]
    refine c9_inner h1 h2 ?_
    rw [if_pos (by rw [nI_leI (by omega) (by omega)]; omega), nI_1]
    exact hB M hf hA
  | succ m ih =>
    intro i M hi hf hA
    rw [w_X9_read_228]
    refine c9_inner h1 h2 ?_
    rw [if_neg (by rw [nI_leI (by omega) (by omega)]; omega)]
    have key : ∀ v, v = nI (ptw c) → (vp_in (nI (i + S.length)) 200 ∧ w_X9_read_228 Q B (m + 1) (nI (i + S.length) + 1) (nI k) (nI c) (nI i + 1) (mu M (39, 0, 0, 0) (nI (i + S.length)).toNatClampNeg v)) := by
      intro v hv
      refine ⟨vpT (by omega) (by omega), ?_⟩
      rw [nI_clamp (by omega), nI_1, nI_1, show i + S.length + 1 = i + 1 + S.length by omega]
      refine ih (i + 1) _ (by omega) (hf.tr (onl.mr _ (by simp))) ?_
      rw [mu_row, rep_s]
      have hl : (List.replicate i (ptw c) ++ S).length = i + S.length := by simp
      refine ⟨by rw [hl, upd_at]; exact hv, stkA_upd (by omega) hA⟩
    unfold ptw at key
    by_cases a : c = 12
    · rw [if_pos (e12.mpr a)]; exact key 1 (by rw [if_pos (by omega)]; rfl)
    rw [if_neg (fun z => a (e12.mp z))]
    by_cases b : c = 13
    · rw [if_pos (e13.mpr b)]; exact key 1 (by rw [if_pos (by omega)]; rfl)
    rw [if_neg (fun z => b (e13.mp z))]
    by_cases d : c = 14
    · rw [if_pos (e14.mpr d)]; exact key 1 (by rw [if_pos (by omega)]; rfl)
    rw [if_neg (fun z => d (e14.mp z))]
    exact key 2 (by rw [if_neg (by omega)]; rfl)
theorem c9_228s {c k : Nat} (h1 : 1 ≤ c) (h2 : c ≤ 15) {Q : Int32 → Mem → Prop} {B : Int32 → Int32 → Mem → Prop} {M : Mem} {S : List Nat} (hS : S.length + 2 ≤ 200) (hA : stkA (M.1 (39, 0, 0, 0)) S) (hB : ∀ M1, onl M M1 [39] → stkA (M1.1 (39, 0, 0, 0)) (List.replicate (innr c) (ptw c) ++ S) → B (nI (innr c + S.length)) (nI (k + 1)) M1) : ∃ k0, w_X9_read_228 Q B k0 (nI S.length) (nI k) (nI c) 0 M := by
  have h := c9_228 (Q := Q) (k := k) h1 h2 hS hB (innr c) 0 M (by omega) onl.rf hA
  rw [Nat.zero_add] at h
  exact ⟨_, h⟩
