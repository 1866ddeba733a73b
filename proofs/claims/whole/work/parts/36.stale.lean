theorem c9_159s {b c k : Nat} (hk : k < 24) {Q : Int32 → Mem → Prop} {M : Mem} {f : Nat → Int32} {x4 : Int32} (h4 : x4 = 0 ∨ x4 = 1) (h33 : ∀ i, i < 12 → M.1 (33, 0, 0, 0) i = f (12 * k + i)) (hout : ∀ j, (j < 12 * k ∨ 12 * k + 12 ≤ j) → M.1 (32, 0, 0, 0) j = f j) (hQ : Q x4 (mr M (32, 0, 0, 0) f)) : ∃ k0, w_X9_isStale_159 (nI b) (nI c) Q k0 (nI (12 * k)) x4 0 M := by
  refine ⟨13, ?_⟩
  have h := c9_159 (b := b) (c := c) hk h4 h33 (g := M.1 (32, 0, 0, 0)) hout hQ 12 0 (by omega)
  have e : (fun j => if 12 * k ≤ j ∧ j < 12 * k + 0 then f j else M.1 (32, 0, 0, 0) j) = M.1 (32, 0, 0, 0) := by
    funext j
    rw [if_neg (by omega)]
  rw [e, mr_self] at h
  exact h
theorem c9_106b {b c k : Nat} (hk : k < 24) (ek : k = 4 * b + c) {Q : Int32 → Mem → Prop} {M : Mem} {f : Nat → Int32} {n : Nat} (hn : n ≤ 4) (h3 : f (12 * k + 3) = nI n) (h3g : M.1 (32, 0, 0, 0) (12 * k + 3) = nI n) (h33 : ∀ i, i < 12 → M.1 (33, 0, 0, 0) i = f (12 * k + i)) (hout : ∀ j, (j < 12 * k ∨ 12 * k + 12 ≤ j) → M.1 (32, 0, 0, 0) j = f j)
    (hQ0 : (∀ i, i < n → ∃ j, j < n ∧ M.1 (32, 0, 0, 0) (12 * k + 4 + j) = f (12 * k + 4 + i)) → Q 0 (mr M (32, 0, 0, 0) f)) (hQ1 : (∃ i, i < n ∧ ∀ j, j < n → M.1 (32, 0, 0, 0) (12 * k + 4 + j) ≠ f (12 * k + 4 + i)) → Q 1 (mr M (32, 0, 0, 0) f)) :
    ∀ m i, i + m = n → (∀ q, q < i → ∃ j, j < n ∧ M.1 (32, 0, 0, 0) (12 * k + 4 + j) = f (12 * k + 4 + q)) → w_X9_isStale_106 (nI b) (nI c) Q (m + 1) (nI (12 * k)) 0 (nI i) M := by
  intro m
  induction m with
  | zero =>
    intro i hi hb
    have : i = n := by omega
    subst this
    rw [w_X9_isStale_106, h33 3 (by omega), h3, if_pos (by rw [nI_leI (by omega) (by omega)]; omega)]
    exact c9_159s hk (Or.inl rfl) h33 hout (hQ0 hb)
  | succ m ih =>
    intro i hi hb
    rw [w_X9_isStale_106, h33 3 (by omega), h3, if_neg (by rw [nI_leI (by omega) (by omega)]; omega), if_pos rfl, show (4 : Int32) + nI i = nI (4 + i) from nI_add 4 i]
    refine ⟨vpT (by omega) (by omega), ?_⟩
    rw [nI_clamp (by omega), h33 (4 + i) (by omega), nI_ml, nI_add, ← ek, ← Nat.add_assoc]
    refine c9_placeOf hk hn h3g ?_
    unfold plr
    by_cases hp : pl (fun q => M.1 (32, 0, 0, 0) (12 * k + 4 + q)) (f (12 * k + 4 + i)) n < n
    · rw [if_pos hp, if_pos (nI_ge0 (by have := pl_le (fun q => M.1 (32, 0, 0, 0) (12 * k + 4 + q)) (f (12 * k + 4 + i)) n; omega)), nI_1]
      refine ih (i + 1) (by omega) (fun q hq => ?_)
      rcases Nat.lt_or_ge q i with h | h
      · exact hb q h
      · have : q = i := by omega
        subst this
        exact ⟨_, hp, pl_at _ _ n hp⟩
    · rw [if_neg hp, if_neg (by decide)]
      have hno : ∃ i, i < n ∧ ∀ j, j < n → M.1 (32, 0, 0, 0) (12 * k + 4 + j) ≠ f (12 * k + 4 + i) := by
        have h1 := pl_le (fun q => M.1 (32, 0, 0, 0) (12 * k + 4 + q)) (f (12 * k + 4 + i)) n
        exact ⟨i, by omega, fun j hj => pl_lt (fun q => M.1 (32, 0, 0, 0) (12 * k + 4 + q)) (f (12 * k + 4 + i)) n j (by omega)⟩
      cases m with
      | zero =>
        rw [w_X9_isStale_106, nI_1, h33 3 (by omega), h3, if_pos (by rw [nI_leI (by omega) (by omega)]; omega)]
        exact c9_159s hk (Or.inr rfl) h33 hout (hQ1 hno)
      | succ m =>
        rw [w_X9_isStale_106, nI_1, h33 3 (by omega), h3, if_neg (by rw [nI_leI (by omega) (by omega)]; omega), if_neg (by decide)]
        exact c9_159s hk (Or.inr rfl) h33 hout (hQ1 hno)
theorem c9_106c {b c k : Nat} (hk : k < 24) {Q : Int32 → Mem → Prop} {M : Mem} {f : Nat → Int32} {x4 : Int32} (h4 : x4 = 1 ∨ (x4 = 0 ∧ f (12 * k + 3) = -1)) (h33 : ∀ i, i < 12 → M.1 (33, 0, 0, 0) i = f (12 * k + i)) (hout : ∀ j, (j < 12 * k ∨ 12 * k + 12 ≤ j) → M.1 (32, 0, 0, 0) j = f j) (hQ : Q x4 (mr M (32, 0, 0, 0) f)) : ∃ k0, w_X9_isStale_106 (nI b) (nI c) Q k0 (nI (12 * k)) x4 0 M := by
  refine ⟨1, ?_⟩
  rw [w_X9_isStale_106, h33 3 (by omega)]
  rcases h4 with rfl | ⟨rfl, h3⟩
  · rw [if_neg (show ¬ (1 : Int32) = 0 by decide)]
    have := c9_159s (b := b) (c := c) hk (Or.inr rfl) h33 hout hQ
    split <;> exact this
  · rw [h3, if_pos (by decide)]
    exact c9_159s hk (Or.inl rfl) h33 hout hQ
theorem c9_12 {b c : Nat} (hb : b < 6) (hc : c < 4) {Q : Int32 → Mem → Prop} {M : Mem} (hQ : w_X9_isStale_12 (nI b) (nI c) Q 1 (nI (12 * (4 * b + c))) (nI 12) (mr M (33, 0, 0, 0) (sv12 (M.1 (32, 0, 0, 0)) (4 * b + c) (M.1 (33, 0, 0, 0)) 12))) : ∀ m i, i + m = 12 → w_X9_isStale_12 (nI b) (nI c) Q (m + 1) (nI (12 * (4 * b + c))) (nI i) (mr M (33, 0, 0, 0) (sv12 (M.1 (32, 0, 0, 0)) (4 * b + c) (M.1 (33, 0, 0, 0)) i)) := by
  intro m
  induction m with
  | zero =>
    intro i hi
    have : i = 12 := by omega
    subst this
    exact hQ
  | succ m ih =>
    intro i hi
    rw [w_X9_isStale_12, if_neg (by rw [nI_lel (by omega) (by omega)]; omega), nI_add]
    refine ⟨vpT (by omega) (by omega), vpT (by omega) (by omega), ?_⟩
    rw [nI_clamp (by omega), nI_clamp (by omega), mu_mr, mr_ne _ _ (by simp), nI_1]
    have e : upd (sv12 (M.1 (32, 0, 0, 0)) (4 * b + c) (M.1 (33, 0, 0, 0)) i) i (M.1 (32, 0, 0, 0) (12 * (4 * b + c) + i)) = sv12 (M.1 (32, 0, 0, 0)) (4 * b + c) (M.1 (33, 0, 0, 0)) (i + 1) := by
      funext j
      unfold upd sv12
      repeat' split
      all_goals first | rfl | (exfalso; omega) | (subst_vars; rfl)
    rw [e]
    exact ih (i + 1) (by omega)
/-- isStale of the reference -/
theorem c9_isStale {b c n : Nat} (hb : b < 6) (hc : c < 4) (hn : n ≤ 8) {Q : Int32 → Mem → Prop} {M : Mem} (hm : M.1 (31, 0, 0, 0) b = nI n) (hok : okF (M.1 (32, 0, 0, 0)) (4 * b + c)) (hQ : ∀ r R33, (r = 0 ∨ r = 1) → (r = 0 ↔ ¬ stP (M.1 (32, 0, 0, 0)) (anF (M.1 (30, 0, 0, 0)) (M.1 (32, 0, 0, 0)) b c n) (4 * b + c)) → Q r (mr M (33, 0, 0, 0) R33)) : w_X9_isStale (nI b) (nI c) Q M := by
  intro x3 e
  rw [nI_ml, nI_add, nI_ml] at e
  subst e
  refine ⟨13, ?_⟩
  obtain ⟨k, ek⟩ : ∃ k, k = 4 * b + c := ⟨_, rfl⟩
  have hk : k < 24 := by omega
  have h12 := c9_12 hb hc (Q := Q) (M := M) ?_ 12 0 (by omega)
  · have e0 : sv12 (M.1 (32, 0, 0, 0)) (4 * b + c) (M.1 (33, 0, 0, 0)) 0 = M.1 (33, 0, 0, 0) := by
      funext j
      unfold sv12
      rw [if_neg (by omega)]
    rw [e0, mr_self] at h12
    exact h12
  · rw [w_X9_isStale_12, if_pos (by decide), ← ek]
    rw [← ek] at hok hQ
    obtain ⟨M1, hM1⟩ : ∃ M1, M1 = mr M (33, 0, 0, 0) (sv12 (M.1 (32, 0, 0, 0)) k (M.1 (33, 0, 0, 0)) 12) := ⟨_, rfl⟩
    rw [← hM1]
    have e30 : M1.1 (30, 0, 0, 0) = M.1 (30, 0, 0, 0) := by rw [hM1, mr_ne _ _ (by simp)]
    have e31 : M1.1 (31, 0, 0, 0) = M.1 (31, 0, 0, 0) := by rw [hM1, mr_ne _ _ (by simp)]
    have e32 : M1.1 (32, 0, 0, 0) = M.1 (32, 0, 0, 0) := by rw [hM1, mr_ne _ _ (by simp)]
    have e33 : ∀ i, i < 12 → M1.1 (33, 0, 0, 0) i = M.1 (32, 0, 0, 0) (12 * k + i) := fun i hi => by rw [hM1, mr_at]; exact if_pos hi
    refine c9_makeAnew hb hc hn (by rw [e31]; exact hm) ?_
    rw [e30, e32]
    obtain ⟨f, hf⟩ : ∃ f, f = M.1 (32, 0, 0, 0) := ⟨_, rfl⟩
    obtain ⟨g, hg⟩ : ∃ g, g = anF (M.1 (30, 0, 0, 0)) (M.1 (32, 0, 0, 0)) b c n := ⟨_, rfl⟩
    have hgo : ∀ j, (j < 12 * k ∨ 12 * k + 12 ≤ j) → g j = f j := fun j hj => by rw [hg, hf]; exact anF_out _ _ _ _ (by rw [← ek]; exact hj) n
    have hgk : okF g k := by rw [hg, ek]; exact okF_an _ _ _ _ _
    rw [← hg, ← hf] at hQ
    rw [← hf] at hok
    simp only [← hf] at e33
    rw [show anF (M.1 (30, 0, 0, 0)) (M.1 (32, 0, 0, 0)) b c n = g from hg.symm]
    obtain ⟨M2, hM2⟩ : ∃ M2, M2 = mr M1 (32, 0, 0, 0) g := ⟨_, rfl⟩
    rw [← hM2]
    have f32 : M2.1 (32, 0, 0, 0) = g := by rw [hM2, mr_at]
    have f33 : ∀ i, i < 12 → M2.1 (33, 0, 0, 0) i = f (12 * k + i) := fun i hi => by rw [hM2, mr_ne _ _ (by simp)]; exact e33 i hi
    have f33z : M2.1 (33, 0, 0, 0) 0 = f (12 * k) := f33 0 (by omega)
    have hout : ∀ j, (j < 12 * k ∨ 12 * k + 12 ≤ j) → M2.1 (32, 0, 0, 0) j = f j := fun j hj => by rw [f32]; exact hgo j hj
    have hend : mr M2 (32, 0, 0, 0) f = M1 := by rw [hM2, mr_mr, hf, ← e32, mr_self]
    have hQ2 : ∀ r, (r = 0 ∨ r = 1) → (r = 0 ↔ ¬ stP f g k) → Q r (mr M2 (32, 0, 0, 0) f) := fun r h1 h2 => by rw [hend, hM1]; exact hQ r _ h1 h2
    have one : stP f g k → Q 1 (mr M2 (32, 0, 0, 0) f) := fun h => hQ2 1 (Or.inr rfl) ⟨fun q => absurd q (by decide), fun q => absurd h q⟩
    rw [show nI (12 * k) + 1 = nI (12 * k + 1) from nI_al _ _, show nI (12 * k) + 3 = nI (12 * k + 3) from nI_al _ _]
    refine ⟨vpT (by omega) (by omega), ?_⟩
    rw [nI_clamp (by omega), f33z, f32]
    by_cases h0 : f (12 * k) = g (12 * k)
    · rw [if_pos h0]
      refine ⟨vpT (by omega) (by omega), ?_⟩
      rw [nI_clamp (by omega), f33 1 (by omega)]
      by_cases h1 : f (12 * k + 1) = g (12 * k + 1)
      · rw [if_pos h1]
        refine ⟨vpT (by omega) (by omega), ?_⟩
        rw [nI_clamp (by omega), f33 3 (by omega)]
        by_cases h3 : f (12 * k + 3) = g (12 * k + 3)
        · rw [if_pos h3]
          rcases hok with hm1 | ⟨nf, hnf, h3n⟩
          · refine c9_106c hk (Or.inr ⟨rfl, hm1⟩) f33 hout (hQ2 0 (Or.inl rfl) ⟨fun _ => ?_, fun _ => rfl⟩)
            rintro (h | h | h | ⟨n2, i, hn2, h, -⟩)
            · exact h h0
            · exact h h1
            · exact h h3
            · rw [hm1] at h
              exact absurd (h ▸ nI_nn (n := n2) (by omega)) (fun q => q m1_lt)
          · refine ⟨nf + 1, c9_106b hk ek hnf h3n (by rw [f32, ← h3]; exact h3n) f33 hout (fun hall => ?_) (fun hno => ?_) nf 0 (by omega) (fun q hq => absurd hq (Nat.not_lt_zero q))⟩
            · rw [f32] at hall
              refine hQ2 0 (Or.inl rfl) ⟨fun _ => ?_, fun _ => rfl⟩
              rintro (h | h | h | ⟨n2, i, hn2, h, hi, hno⟩)
              · exact h h0
              · exact h h1
              · exact h h3
              · have e2 : n2 = nf := (nI_eq (by omega) (by omega)).mp (h.symm.trans h3n)
                subst e2
                obtain ⟨j, hj, ej⟩ := hall i hi
                exact hno j hj ej
            · rw [f32] at hno
              obtain ⟨i, hi, hno⟩ := hno
              exact one (Or.inr (Or.inr (Or.inr ⟨nf, i, hnf, h3n, hi, hno⟩)))
        · rw [if_neg h3]
          exact c9_106c hk (Or.inl rfl) f33 hout (one (Or.inr (Or.inr (Or.inl h3))))
      · rw [if_neg h1]
        exact c9_106c hk (Or.inl rfl) f33 hout (one (Or.inr (Or.inl h1)))
    · rw [if_neg h0]
      exact c9_106c hk (Or.inl rfl) f33 hout (one (Or.inl h0))
