/-! the class's summary: whether it differs, and its copy -/
def ndF (f : Nat → Int32) (k : Nat) : Prop := ∀ m i j, m ≤ 4 → f (12 * k + 3) = nI m → i < j → j < m → f (12 * k + 4 + i) ≠ f (12 * k + 4 + j)
theorem nd_swap {n : Nat} {f g : Nat → Int32} (hnd : ∀ i j, i < j → j < n → f i ≠ f j) (h : ∀ i, i < n → ∃ j, j < n ∧ g j = f i) : ∀ j, j < n → ∃ i, i < n ∧ f i = g j := by
  intro y hy
  have hlt : ∀ i, i < n → pl g (f i) n < n := fun i hi => by
    obtain ⟨j, hj, e⟩ := h i hi
    rcases Nat.lt_or_ge (pl g (f i) n) n with q | q
    · exact q
    · exact absurd e (pl_lt g (f i) n j (by omega))
  obtain ⟨i, hi, e⟩ := fb_onto (f := fun i => pl g (f i) n) hlt (fun i j hij hj e => hnd i j hij hj (by
    have e1 := pl_at g (f i) n (hlt i (by omega))
    have e2 := pl_at g (f j) n (hlt j hj)
    rw [← e1, ← e2, e])) hy
  refine ⟨i, hi, ?_⟩
  have e1 := pl_at g (f i) n (hlt i hi)
  rw [e] at e1
  exact e1.symm
theorem c6_differs_50 {s b c s1 b1 c1 n : Nat} (hn : n ≤ 4) {Q : Int32 → Mem → Prop} {M : Mem} (h1 : M.1 (7, s, b, c) 3 = nI n) (h2 : M.1 (7, s1, b1, c1) 3 = nI n) (hQ0 : (∀ i, i < n → ∃ j, j < n ∧ M.1 (8, s, b, c) j = M.1 (8, s1, b1, c1) i) → Q 0 M) (hQ1 : (∃ i, i < n ∧ ∀ j, j < n → M.1 (8, s, b, c) j ≠ M.1 (8, s1, b1, c1) i) → Q 1 M) : ∀ m i, i + m = n → (∀ q, q < i → ∃ j, j < n ∧ M.1 (8, s, b, c) j = M.1 (8, s1, b1, c1) q) → w_X6_differsFrom_50 s b c s1 b1 c1 Q (m + 1) (nI i) M := by
  intro m
  induction m with
  | zero =>
    intro i hi hb
    have : i = n := by omega
    subst this
    rw [w_X6_differsFrom_50, h2, if_pos (by rw [nI_leI (by omega) (by omega)]; omega)]
    exact hQ0 hb
  | succ m ih =>
    intro i hi hb
    rw [w_X6_differsFrom_50, h2, if_neg (by rw [nI_leI (by omega) (by omega)]; omega)]
    refine ⟨vpT (by omega) (by omega), c6_placeOf hn h1 ?_⟩
    rw [nI_clamp (by omega)]
    have hle := pl_le (M.1 (8, s, b, c)) (M.1 (8, s1, b1, c1) i) n
    unfold plr
    by_cases hp : pl (M.1 (8, s, b, c)) (M.1 (8, s1, b1, c1) i) n < n
    · rw [if_pos hp, if_neg (nI_neN (by omega)), nI_1]
      refine ih (i + 1) (by omega) (fun q hq => ?_)
      rcases Nat.lt_or_ge q i with h | h
      · exact hb q h
      · have : q = i := by omega
        subst this
        exact ⟨_, hp, pl_at _ _ n hp⟩
    · rw [if_neg hp, if_pos rfl]
      exact hQ1 ⟨i, by omega, fun j hj => pl_lt _ _ n j (by omega)⟩
theorem c6_differs {s b c s1 b1 c1 k : Nat} {Q : Int32 → Mem → Prop} {M : Mem} {f g : Nat → Int32} (hf : RSum M s b c f k) (hg : RSum M s1 b1 c1 g k) (nf : ndF f k) (ng : ndF g k) (hQ : ∀ r, (r = 0 ∨ r = 1) → (r = 0 ↔ ¬ stP f g k) → Q r M) : w_X6_differsFrom s b c s1 b1 c1 Q M := by
  have one : stP f g k → Q 1 M := fun h => hQ 1 (Or.inr rfl) ⟨fun q => absurd q (by decide), fun q => absurd h q⟩
  unfold w_X6_differsFrom
  obtain ⟨f0, f1, f2, f3⟩ := hf
  obtain ⟨g0, g1, g2, g3⟩ := hg
  rw [f0, f1, g0, g1]
  rcases (Decidable.em (f (12 * k) = g (12 * k))).symm with h0 | h0
  · rw [if_neg h0]; exact one (Or.inl h0)
  rw [if_pos h0]
  rcases (Decidable.em (f (12 * k + 1) = g (12 * k + 1))).symm with h1 | h1
  · rw [if_neg h1]; exact one (Or.inr (Or.inl h1))
  rw [if_pos h1]
  have m1n : ∀ n, n ≤ 4 → (-1 : Int32) ≠ nI n := fun n hn e => nI_nn (n := n) (by omega) (e ▸ m1_lt)
  rcases f3 with ⟨fa, fb, fc⟩ | ⟨n, hn, fa, fb, fc, fd⟩
  · rcases g3 with ⟨ga, gb, gc⟩ | ⟨n2, hn2, ga, gb, gc, gd⟩
    · rw [fb, gb, if_pos rfl, fc, gc, if_pos rfl]
      refine ⟨1, c6_differs_50 (n := 0) (by omega) (by rw [fc]; rfl) (by rw [gc]; rfl) (fun _ => hQ 0 (Or.inl rfl) ⟨fun _ => ?_, fun _ => rfl⟩) (fun ⟨i, hi, _⟩ => absurd hi (Nat.not_lt_zero i)) 0 0 rfl (fun q hq => absurd hq (Nat.not_lt_zero q))⟩
      rintro (h | h | h | ⟨n2, i, hn2, h, -⟩)
      · exact h h0
      · exact h h1
      · exact h (fa.trans ga.symm)
      · rw [fa] at h
        exact m1n n2 hn2 h
    · rw [fb, gb, if_neg (by decide)]
      exact one (Or.inr (Or.inr (Or.inl (by rw [fa, ga]; exact m1n n2 hn2))))
  · rcases g3 with ⟨ga, gb, gc⟩ | ⟨n2, hn2, ga, gb, gc, gd⟩
    · rw [fb, gb, if_neg (by decide)]
      exact one (Or.inr (Or.inr (Or.inl (by rw [fa, ga]; exact (m1n n hn).symm))))
    · rw [fb, gb, if_pos rfl, fc, gc]
      rcases (Decidable.em (n = n2)).symm with hnn | hnn
      · have hne : nI n ≠ nI n2 := fun e => hnn ((nI_eq (by omega) (by omega)).mp e)
        rw [if_neg hne]
        exact one (Or.inr (Or.inr (Or.inl (by rw [fa, ga]; exact hne))))
      subst hnn
      rw [if_pos rfl]
      refine ⟨n + 1, c6_differs_50 hn fc gc (fun hall => hQ 0 (Or.inl rfl) ⟨fun _ => ?_, fun _ => rfl⟩) (fun hno => ?_) n 0 (by omega) (fun q hq => absurd hq (Nat.not_lt_zero q))⟩
      · have hall2 : ∀ i, i < n → ∃ j, j < n ∧ f (12 * k + 4 + j) = g (12 * k + 4 + i) := fun i hi => by
          obtain ⟨j, hj, e⟩ := hall i hi
          rw [(fd j hj).1, (gd i hi).1] at e
          exact ⟨j, hj, e⟩
        have hs := nd_swap (f := fun i => g (12 * k + 4 + i)) (g := fun i => f (12 * k + 4 + i)) (fun i j hij hj => ng n i j hn ga hij hj) hall2
        rintro (h | h | h | ⟨n2, i, hn2, h, hi, hno⟩)
        · exact h h0
        · exact h h1
        · exact h (fa.trans ga.symm)
        · have e2 : n2 = n := (nI_eq (by omega) (by omega)).mp (h.symm.trans fa)
          subst e2
          obtain ⟨j, hj, ej⟩ := hs i hi
          exact hno j hj ej
      · refine one (Or.inr (Or.inr (Or.inr ?_)))
        refine Classical.byContradiction fun hx => ?_
        have hall : ∀ i, i < n → ∃ j, j < n ∧ g (12 * k + 4 + j) = f (12 * k + 4 + i) := fun i hi => Classical.byContradiction fun hy => hx ⟨n, i, hn, fa, hi, fun j hj e => hy ⟨j, hj, e⟩⟩
        have hs := nd_swap (f := fun i => f (12 * k + 4 + i)) (g := fun i => g (12 * k + 4 + i)) (fun i j hij hj => nf n i j hn fa hij hj) hall
        obtain ⟨i, hi, hno⟩ := hno
        obtain ⟨j, hj, ej⟩ := hs i hi
        refine hno j hj ?_
        rw [(fd j hj).1, (gd i hi).1]
        exact ej
theorem ndF_clr (f : Nat → Int32) (k : Nat) : ndF (clrF f k) k := by
  intro m i j hm h hij hj
  rw [clrF_at f k (by omega)] at h
  have : m = 0 := (nI_eq (by omega) (by omega)).mp h.symm
  omega
theorem ndF_same {f g : Nat → Int32} {k : Nat} (h : ndF f k) (e3 : g (12 * k + 3) = f (12 * k + 3)) (e : ∀ j, j < 4 → g (12 * k + 4 + j) = f (12 * k + 4 + j)) : ndF g k := by
  intro m i j hm h3 hij hj
  rw [e i (by omega), e j (by omega)]
  exact h m i j hm (e3 ▸ h3) hij hj
theorem ndF_come {f : Nat → Int32} {k : Nat} (v : Int32) (ho : okF f k) (h : ndF f k) : ndF (comeF f k v) k := by
  unfold comeF
  split
  · exact ndF_same h (upd_ne _ _ (by omega)) (fun j hj => upd_ne _ _ (by omega))
  · have hl : ndF (lgF f k v) k := ndF_same h (lgF_hi _ _ _ (by omega)) (fun j hj => by rw [Nat.add_assoc, lgF_hi _ _ _ (by omega)])
    rcases okF_lg (v := v) ho with h3 | ⟨n, hn, h3⟩
    · rw [enF_m1 h3]; exact hl
    · by_cases hp : pl (fun i => lgF f k v (12 * k + 4 + i)) v n < n
      · rw [enF_in hn h3 hp]
        exact ndF_same hl (upd_ne _ _ (by omega)) (fun j hj => upd_ne _ _ (by omega))
      · by_cases h4 : n = 4
        · subst h4
          rw [enF_full h3 hp]
          intro m i j hm e
          rw [upd_at] at e
          exact absurd (e ▸ m1_lt) (nI_nn (n := m) (by omega))
        · rw [enF_new (by omega) h3 hp]
          intro m i j hm e hij hj
          rw [upd_at] at e
          have : n + 1 = m := (nI_eq (by omega) (by omega)).mp e
          subst this
          have hle := pl_le (fun i => lgF f k v (12 * k + 4 + i)) v n
          rw [upd_ne _ _ (by omega), upd_ne _ _ (by omega), upd_ne _ _ (by omega), upd_ne _ _ (j := 12 * k + 4 + j) (by omega), upd_ne _ _ (j := 12 * k + 4 + j) (by omega)]
          by_cases hjn : j = n
          · subst hjn
            rw [upd_at]
            exact pl_lt (fun i => lgF f k v (12 * k + 4 + i)) v j i (by omega)
          · rw [upd_ne _ _ (by omega)]
            exact hl n i j hn h3 hij (by omega)
theorem ndF_an (rw_ f : Nat → Int32) (b c : Nat) : ∀ r, ndF (anF rw_ f b c r) (4 * b + c)
  | 0 => ndF_clr _ _
  | r + 1 => ndF_come _ (okF_an rw_ f b c r) (ndF_an rw_ f b c r)
