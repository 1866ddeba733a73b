/-! pure rows: memory, numbers; the clearing methods -/
theorem mu_row (M : Mem) (i : ix) (k : Nat) (v : Int32) : (mu M i k v).1 i = upd (M.1 i) k v := if_pos rfl
theorem mu_ne (M : Mem) {i j : ix} (k : Nat) (v : Int32) (h : j ≠ i) : (mu M i k v).1 j = M.1 j := if_neg h
theorem mu_2 (M : Mem) (i : ix) (k : Nat) (v : Int32) : (mu M i k v).2 = M.2 := rfl
theorem mr_2 (M : Mem) (i : ix) (r : Nat → Int32) : (mr M i r).2 = M.2 := rfl
theorem mr_mr (M : Mem) (i : ix) (r r2 : Nat → Int32) : mr (mr M i r) i r2 = mr M i r2 := by
  unfold mr
  refine Prod.ext (funext fun j => ?_) rfl
  by_cases h : j = i <;> simp [h]
theorem mu_mr (M : Mem) (i : ix) (r : Nat → Int32) (k : Nat) (v : Int32) : mu (mr M i r) i k v = mr M i (upd r k v) := by
  show mr (mr M i r) i (upd ((mr M i r).1 i) k v) = _
  rw [mr_at, mr_mr]
theorem mr_self (M : Mem) (i : ix) : mr M i (M.1 i) = M := by
  unfold mr
  refine Prod.ext (funext fun j => ?_) rfl
  by_cases h : j = i <;> simp [h]
theorem upd_at (f : Nat → Int32) (k : Nat) (x : Int32) : upd f k x k = x := if_pos rfl
theorem upd_ne (f : Nat → Int32) {k j : Nat} (x : Int32) (h : j ≠ k) : upd f k x j = f j := if_neg h
theorem mem_ext {M N : Mem} (h : ∀ i k, M.1 i k = N.1 i k) (h2 : ∀ k, M.2 k = N.2 k) : M = N := Prod.ext (funext fun i => funext fun k => h i k) (funext h2)
theorem nI_lit12 : (12 : Int32) = nI 12 := rfl
theorem nI_mul (a b : Nat) : nI a * nI b = nI (a * b) := pk_mul a b
/-- known, with what is known of the column k made new -/
def clr (M : Mem) (k i : Nat) : Mem := mr M (32, 0, 0, 0) (fun j => if 12 * k ≤ j ∧ j < 12 * k + i then (if j < 12 * k + 2 then -2000000 else 0) else M.1 (32, 0, 0, 0) j)
theorem clr_0 (M : Mem) (k : Nat) : clr M k 0 = M := by
  unfold clr
  have : (fun j => if 12 * k ≤ j ∧ j < 12 * k + 0 then (if j < 12 * k + 2 then (-2000000 : Int32) else 0) else M.1 (32, 0, 0, 0) j) = M.1 (32, 0, 0, 0) := by
    funext j
    rw [if_neg (by omega)]
  rw [this, mr_self]
theorem clr_succ (M : Mem) (k i : Nat) : mu (clr M k i) (32, 0, 0, 0) (12 * k + i) (if i < 2 then -2000000 else 0) = clr M k (i + 1) := by
  unfold clr
  rw [mu_mr]
  congr 1
  funext j
  unfold upd
  dsimp only
  repeat' split
  all_goals first | rfl | (exfalso; omega)
theorem w9_clear_2 {k : Nat} (hk : k < 24) {Q : Mem → Prop} {M : Mem} (hQ : Q (clr M k 12)) : ∀ (m i : Nat), i + m = 12 → w_X9_clear_2 (nI k) Q (m + 1) (nI i) (clr M k i)
  | 0, i, h => by
    have h : i = 12 := by omega
    subst h
    rw [w_X9_clear_2, if_pos (by decide)]
    exact hQ
  | m + 1, i, h => by
    have e : (12 : Int32) * nI k + nI i = nI (12 * k + i) := by rw [nI_lit12, nI_mul, nI_add]
    have hin : vp_in ((12 : Int32) * nI k + nI i) 288 := by rw [e]; exact vp_in_nI (by omega) (by omega)
    have hc : ((12 : Int32) * nI k + nI i).toNatClampNeg = 12 * k + i := by rw [e, nI_clamp (by omega)]
    have e1 : nI i + 1 = nI (i + 1) := nI_1 i
    rw [w_X9_clear_2, if_neg (show ¬ (12 : Int32) ≤ nI i from by rw [nI_lit12]; exact fun q => by rw [nI_leI (by omega) (by omega)] at q; omega)]
    by_cases h2 : i < 2
    · rw [if_neg (show ¬ (2 : Int32) ≤ nI i from by rw [show (2 : Int32) = nI 2 from rfl]; exact fun q => by rw [nI_leI (by omega) (by omega)] at q; omega)]
      refine ⟨hin, ?_⟩
      rw [hc, e1]
      have h3 := clr_succ M k i
      rw [if_pos h2] at h3
      rw [h3]
      exact w9_clear_2 hk hQ m (i + 1) (by omega)
    · rw [if_pos (show (2 : Int32) ≤ nI i from by rw [show (2 : Int32) = nI 2 from rfl, nI_leI (by omega) (by omega)]; omega)]
      refine ⟨hin, ?_⟩
      rw [hc, e1]
      have h3 := clr_succ M k i
      rw [if_neg h2] at h3
      rw [h3]
      exact w9_clear_2 hk hQ m (i + 1) (by omega)
theorem w9_clear {k : Nat} (hk : k < 24) {Q : Mem → Prop} {M : Mem} (hQ : Q (clr M k 12)) : w_X9_clear (nI k) Q M := by
  refine ⟨13, ?_⟩
  have h := w9_clear_2 hk hQ 12 0 rfl
  rw [clr_0] at h
  exact h
def r7_0 : Nat → Int32 := fun k => if k = 0 ∨ k = 1 then -2000000 else 0
theorem w6_clear {s0 b0 c0 : Nat} {Q : Mem → Prop} {M : Mem} (hQ : ∀ r : Nat → Int32, r 0 = -2000000 → r 1 = -2000000 → r 2 = 0 → r 3 = 0 → r 4 = 0 → (∀ k, 5 ≤ k → r k = M.1 (7, s0, b0, c0) k) → Q (mr M (7, s0, b0, c0) r)) : w_X6_clear s0 b0 c0 Q M := by
  intro M19 e
  subst e
  have e0 : (mu M (7, s0, b0, c0) 0 (-2000000 : Int32)) = mr M (7, s0, b0, c0) (upd (M.1 (7, s0, b0, c0)) 0 (-2000000)) := rfl
  rw [e0, mu_mr, mu_mr, mu_mr, mu_mr]
  refine hQ _ ?_ ?_ ?_ ?_ ?_ ?_
  · simp [upd]
  · simp [upd]
  · simp [upd]
  · simp [upd]
  · simp [upd]
  · intro k hk
    simp [upd, show k ≠ 4 by omega, show k ≠ 3 by omega, show k ≠ 2 by omega, show k ≠ 1 by omega, show k ≠ 0 by omega]
