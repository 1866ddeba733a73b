/-! what is known of a column: a number comes -/
def lo0 (x v : Int32) : Int32 := if x = -2000000 then v else if v < x then v else x
def hi0 (x v : Int32) : Int32 := if x = -2000000 then v else if x < v then v else x
def enF (g : Nat → Int32) (k : Nat) (v : Int32) : Nat → Int32 :=
  if g (12 * k + 3) < 0 then g
  else if pl (fun i => g (12 * k + 4 + i)) v (g (12 * k + 3)).toNatClampNeg < (g (12 * k + 3)).toNatClampNeg then upd g (12 * k + 8 + pl (fun i => g (12 * k + 4 + i)) v (g (12 * k + 3)).toNatClampNeg) (g (12 * k + 8 + pl (fun i => g (12 * k + 4 + i)) v (g (12 * k + 3)).toNatClampNeg) + 1)
  else if (g (12 * k + 3)).toNatClampNeg = 4 then upd g (12 * k + 3) (-1)
  else upd (upd (upd g (12 * k + 4 + (g (12 * k + 3)).toNatClampNeg) v) (12 * k + 8 + (g (12 * k + 3)).toNatClampNeg) 1) (12 * k + 3) (nI ((g (12 * k + 3)).toNatClampNeg + 1))
def lgF (f : Nat → Int32) (k : Nat) (v : Int32) : Nat → Int32 := upd (upd f (12 * k) (lo0 (f (12 * k)) v)) (12 * k + 1) (hi0 (f (12 * k + 1)) v)
def comeF (f : Nat → Int32) (k : Nat) (v : Int32) : Nat → Int32 := if v = 1000 then upd f (12 * k + 2) (f (12 * k + 2) + 1) else enF (lgF f k v) k v
def okF (f : Nat → Int32) (k : Nat) : Prop := f (12 * k + 3) = -1 ∨ ∃ n, n ≤ 4 ∧ f (12 * k + 3) = nI n
theorem m1_lt : ((-1 : Int32) < 0) := by decide
theorem lgF_hi (f : Nat → Int32) (k : Nat) (v : Int32) {j : Nat} (h : 2 ≤ j) : lgF f k v (12 * k + j) = f (12 * k + j) := by
  unfold lgF
  rw [upd_ne _ _ (by omega), upd_ne _ _ (by omega)]
theorem okF_lg {f : Nat → Int32} {k : Nat} {v : Int32} (h : okF f k) : okF (lgF f k v) k := by
  unfold okF
  rw [lgF_hi _ _ _ (by omega)]
  exact h
theorem enF_m1 {g : Nat → Int32} {k : Nat} {v : Int32} (h : g (12 * k + 3) = -1) : enF g k v = g := by
  unfold enF
  rw [h, if_pos m1_lt]
theorem enF_in {g : Nat → Int32} {k n : Nat} {v : Int32} (hn : n ≤ 4) (h : g (12 * k + 3) = nI n) (hp : pl (fun i => g (12 * k + 4 + i)) v n < n) : enF g k v = upd g (12 * k + 8 + pl (fun i => g (12 * k + 4 + i)) v n) (g (12 * k + 8 + pl (fun i => g (12 * k + 4 + i)) v n) + 1) := by
  unfold enF
  rw [h, if_neg (nI_nn (by omega)), nI_clamp (by omega), if_pos hp]
theorem enF_full {g : Nat → Int32} {k : Nat} {v : Int32} (h : g (12 * k + 3) = nI 4) (hp : ¬ pl (fun i => g (12 * k + 4 + i)) v 4 < 4) : enF g k v = upd g (12 * k + 3) (-1) := by
  unfold enF
  rw [h, if_neg (nI_nn (by omega)), nI_clamp (by omega), if_neg hp, if_pos rfl]
theorem enF_new {g : Nat → Int32} {k n : Nat} {v : Int32} (hn : n < 4) (h : g (12 * k + 3) = nI n) (hp : ¬ pl (fun i => g (12 * k + 4 + i)) v n < n) : enF g k v = upd (upd (upd g (12 * k + 4 + n) v) (12 * k + 8 + n) 1) (12 * k + 3) (nI (n + 1)) := by
  unfold enF
  rw [h, if_neg (nI_nn (by omega)), nI_clamp (by omega), if_neg hp, if_neg (by omega)]
theorem mu_of {M M1 : Mem} {i : ix} {g : Nat → Int32} (h : M1 = mr M i g) (k : Nat) (v : Int32) : mu M1 i k v = mr M i (upd g k v) := by
  subst h
  exact mu_mr M i g k v
theorem mu_of0 (M : Mem) (i : ix) (k : Nat) (v : Int32) : mu M i k v = mr M i (upd (M.1 i) k v) := rfl
/-- come of the reference -/
theorem c9_106 {k : Nat} (hk : k < 24) {v t0 : Int32} {Q : Mem → Prop} {M : Mem} (hok : okF (M.1 (32, 0, 0, 0)) k) (hQ : Q (mr M (32, 0, 0, 0) (enF (upd (M.1 (32, 0, 0, 0)) (12 * k + 1) t0) k v))) : w_X9_come_106 (nI k) v Q (nI (12 * k)) t0 (nI (12 * k + 1)) M := by
  unfold w_X9_come_106
  refine ⟨vpT (by omega) (by omega), ?_⟩
  rw [show nI (12 * k) + 3 = nI (12 * k + 3) from nI_al _ _, show nI (12 * k) + 4 = nI (12 * k + 4) from nI_al _ _, show nI (12 * k) + 8 = nI (12 * k + 8) from nI_al _ _]
  refine ⟨vpT (by omega) (by omega), ?_⟩
  rw [nI_clamp (n := 12 * k + 1) (by omega), nI_clamp (n := 12 * k + 3) (by omega)]
  obtain ⟨g, hg⟩ : ∃ g, g = upd (M.1 (32, 0, 0, 0)) (12 * k + 1) t0 := ⟨_, rfl⟩
  have hM1 : mu M (32, 0, 0, 0) (12 * k + 1) t0 = mr M (32, 0, 0, 0) g := by rw [hg]; rfl
  rw [← hg] at hQ
  have hok2 : okF g k := by
    unfold okF
    rw [hg, upd_ne _ _ (by omega)]
    exact hok
  rw [hM1]
  clear hg hM1 hok
  obtain ⟨M1, hM1⟩ : ∃ M1, M1 = mr M (32, 0, 0, 0) g := ⟨_, rfl⟩
  have h32 : M1.1 (32, 0, 0, 0) = g := by rw [hM1, mr_at]
  rw [← hM1, h32]
  rcases hok2 with h3 | ⟨n, hn, h3⟩
  · rw [h3, if_neg (by decide), hM1]
    rw [enF_m1 h3] at hQ
    exact hQ
  · rw [h3, if_pos (nI_ge0 (by omega))]
    refine c9_placeOf hk hn (by rw [h32]; exact h3) ?_
    rw [h32]
    unfold plr
    by_cases hp : pl (fun i => g (12 * k + 4 + i)) v n < n
    · have hp4 := pl_le (fun i => g (12 * k + 4 + i)) v n
      rw [enF_in hn h3 hp] at hQ
      rw [if_pos hp, if_neg (nI_nn (by omega)), nI_add]
      refine ⟨vpT (by omega) (by omega), vpT (by omega) (by omega), fun M147 e => ?_⟩
      rw [e, nI_clamp (by omega), mu_of hM1]
      exact hQ
    · rw [if_neg hp, if_pos (by decide)]
      refine ⟨vpT (by omega) (by omega), ?_⟩
      rw [h3]
      by_cases h4 : n = 4
      · subst h4
        rw [if_pos (show nI 4 = 4 from rfl)]
        refine ⟨vpT (by omega) (by omega), ?_⟩
        rw [enF_full h3 hp] at hQ
        rw [mu_of hM1]
        exact hQ
      · rw [if_neg (by rw [show (4 : Int32) = nI 4 from rfl, nI_eq (by omega) (by omega)]; exact h4), nI_add]
        refine ⟨vpT (by omega) (by omega), vpT (by omega) (by omega), vpT (by omega) (by omega), ?_⟩
        rw [nI_clamp (n := 12 * k + 4 + n) (by omega), mu_of hM1]
        rw [mr_at, upd_ne g v (j := 12 * k + 3) (by omega), h3, nI_add]
        refine ⟨vpT (by omega) (by omega), fun M211 e => ?_⟩
        rw [nI_clamp (by omega), mu_mr] at e
        refine ⟨vpT (by omega) (by omega), vpT (by omega) (by omega), ?_⟩
        rw [enF_new (by omega) h3 hp] at hQ
        rw [mu_of e]
        have e3 : M211.1 (32, 0, 0, 0) (12 * k + 3) + 1 = nI (n + 1) := by
          rw [e, mr_at, upd_ne _ _ (by omega), upd_ne _ _ (by omega), h3, nI_1]
        rw [e3]
        exact hQ
theorem c9_61 {k : Nat} (hk : k < 24) {v t0 : Int32} {Q : Mem → Prop} {M : Mem} (hok : okF (M.1 (32, 0, 0, 0)) k) (hQ : Q (mr M (32, 0, 0, 0) (enF (upd (upd (M.1 (32, 0, 0, 0)) (12 * k) t0) (12 * k + 1) (hi0 (M.1 (32, 0, 0, 0) (12 * k + 1)) v)) k v))) : w_X9_come_61 (nI k) v Q (nI (12 * k)) t0 (nI (12 * k)) M := by
  unfold w_X9_come_61
  refine ⟨vpT (by omega) (by omega), ?_⟩
  rw [show nI (12 * k) + 1 = nI (12 * k + 1) from nI_al _ _]
  refine ⟨vpT (by omega) (by omega), ?_⟩
  rw [nI_clamp (n := 12 * k) (by omega), nI_clamp (n := 12 * k + 1) (by omega)]
  have h1 : (mu M (32, 0, 0, 0) (12 * k) t0).1 (32, 0, 0, 0) = upd (M.1 (32, 0, 0, 0)) (12 * k) t0 := mu_row _ _ _ _
  have hok1 : okF ((mu M (32, 0, 0, 0) (12 * k) t0).1 (32, 0, 0, 0)) k := by
    unfold okF
    rw [h1, upd_ne _ _ (by omega)]
    exact hok
  have key : ∀ t1, t1 = hi0 (M.1 (32, 0, 0, 0) (12 * k + 1)) v → w_X9_come_106 (nI k) v Q (nI (12 * k)) t1 (nI (12 * k + 1)) (mu M (32, 0, 0, 0) (12 * k) t0) := by
    intro t1 e
    refine c9_106 hk hok1 ?_
    rw [h1, mu_of0, mr_mr, e]
    exact hQ
  have e1 : (mu M (32, 0, 0, 0) (12 * k) t0).1 (32, 0, 0, 0) (12 * k + 1) = M.1 (32, 0, 0, 0) (12 * k + 1) := by rw [h1, upd_ne _ _ (by omega)]
  rw [e1]
  unfold hi0 at key
  by_cases h2 : M.1 (32, 0, 0, 0) (12 * k + 1) = -2000000
  · rw [if_pos h2] at key ⊢
    unfold w_X9_come_94
    exact key v rfl
  · rw [if_neg h2] at key ⊢
    refine ⟨vpT (by omega) (by omega), ?_⟩
    by_cases h3 : M.1 (32, 0, 0, 0) (12 * k + 1) < v
    · rw [if_pos h3] at key
      rw [if_neg (Int32.not_le.mpr h3)]
      unfold w_X9_come_94
      exact key v rfl
    · rw [if_neg h3] at key
      rw [if_pos (Int32.not_lt.mp h3)]
      exact ⟨vpT (by omega) (by omega), key _ rfl⟩
theorem c9_come {k : Nat} (hk : k < 24) {v : Int32} {Q : Mem → Prop} {M : Mem} (hok : okF (M.1 (32, 0, 0, 0)) k) (hQ : Q (mr M (32, 0, 0, 0) (comeF (M.1 (32, 0, 0, 0)) k v))) : w_X9_come (nI k) v Q M := by
  intro x3 e
  rw [nI_ml] at e
  subst e
  unfold comeF at hQ
  by_cases hv : v = 1000
  · rw [if_pos hv] at hQ ⊢
    rw [show nI (12 * k) + 2 = nI (12 * k + 2) from nI_al _ _]
    refine ⟨vpT (by omega) (by omega), vpT (by omega) (by omega), ?_⟩
    rw [nI_clamp (by omega)]
    exact hQ
  · rw [if_neg hv] at hQ ⊢
    unfold lgF lo0 at hQ
    refine ⟨vpT (by omega) (by omega), ?_⟩
    rw [nI_clamp (by omega)]
    by_cases h2 : M.1 (32, 0, 0, 0) (12 * k) = -2000000
    · rw [if_pos h2] at hQ ⊢
      unfold w_X9_come_51
      exact c9_61 hk hok hQ
    · rw [if_neg h2] at hQ ⊢
      refine ⟨vpT (by omega) (by omega), ?_⟩
      by_cases h3 : v < M.1 (32, 0, 0, 0) (12 * k)
      · rw [if_pos h3] at hQ
        rw [if_neg (Int32.not_le.mpr h3)]
        unfold w_X9_come_51
        exact c9_61 hk hok hQ
      · rw [if_neg h3] at hQ
        rw [if_pos (Int32.not_lt.mp h3)]
        exact ⟨vpT (by omega) (by omega), c9_61 hk hok hQ⟩
