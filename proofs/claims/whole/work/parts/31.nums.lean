/-! numbers -/
theorem nI_al (a n : Nat) : nI a + (OfNat.ofNat n : Int32) = nI (a + (OfNat.ofNat n : Nat)) := by
  rw [show (OfNat.ofNat n : Int32) = nI n from rfl, nI_add]
  rfl
theorem nI_ml (n a : Nat) : (OfNat.ofNat n : Int32) * nI a = nI ((OfNat.ofNat n : Nat) * a) := by
  rw [show (OfNat.ofNat n : Int32) = nI n from rfl, nI_mul]
  rfl
theorem nI_sl {a n : Nat} (h : (OfNat.ofNat n : Nat) ≤ a) : nI a - (OfNat.ofNat n : Int32) = nI (a - (OfNat.ofNat n : Nat)) := pk_sub h
theorem vpT {n N : Nat} (h : n < N) (hN : N < 2 ^ 31) : vp_in (nI n) N := vp_in_nI h hN
theorem nI_lel {n a : Nat} (hn : (OfNat.ofNat n : Nat) < 2 ^ 31) (ha : a < 2 ^ 31) : (OfNat.ofNat n : Int32) ≤ nI a ↔ (OfNat.ofNat n : Nat) ≤ a := nI_leI hn ha
theorem nI_ler {n a : Nat} (hn : (OfNat.ofNat n : Nat) < 2 ^ 31) (ha : a < 2 ^ 31) : nI a ≤ (OfNat.ofNat n : Int32) ↔ a ≤ (OfNat.ofNat n : Nat) := nI_leI ha hn
theorem nI_ltl {n a : Nat} (hn : (OfNat.ofNat n : Nat) < 2 ^ 31) (ha : a < 2 ^ 31) : (OfNat.ofNat n : Int32) < nI a ↔ (OfNat.ofNat n : Nat) < a := nI_ltI hn ha
theorem nI_ltr {n a : Nat} (hn : (OfNat.ofNat n : Nat) < 2 ^ 31) (ha : a < 2 ^ 31) : nI a < (OfNat.ofNat n : Int32) ↔ a < (OfNat.ofNat n : Nat) := nI_ltI ha hn
theorem nI_eql {n a : Nat} (hn : (OfNat.ofNat n : Nat) < 2 ^ 31) (ha : a < 2 ^ 31) : nI a = (OfNat.ofNat n : Int32) ↔ a = (OfNat.ofNat n : Nat) := nI_eq ha hn
theorem nI_nn {n : Nat} (h : n < 2 ^ 31) : ¬ nI n < 0 := nI_pos h
theorem nI_ge0 {n : Nat} (h : n < 2 ^ 31) : 0 ≤ nI n := nI_pos' h
theorem nI_neN {n : Nat} (h : n < 2 ^ 31) : nI n ≠ -2000000 := by
  intro e
  have h1 := nI_pos h
  rw [e] at h1
  exact h1 (by decide)
/-- the first place of v among the first n of h, n if there is none -/
def pl (h : Nat → Int32) (v : Int32) : Nat → Nat
  | 0 => 0
  | n + 1 => if pl h v n < n then pl h v n else if h n = v then n else n + 1
theorem pl_le (h : Nat → Int32) (v : Int32) : ∀ n, pl h v n ≤ n
  | 0 => Nat.le_refl _
  | n + 1 => by
    have := pl_le h v n
    unfold pl
    split
    · omega
    · split <;> omega
theorem pl_lt (h : Nat → Int32) (v : Int32) : ∀ n i, i < pl h v n → h i ≠ v
  | 0, i, hi => absurd hi (Nat.not_lt_zero i)
  | n + 1, i, hi => by
    have h1 := pl_le h v n
    have ih := pl_lt h v n
    unfold pl at hi
    split at hi
    · exact ih i hi
    · rename_i h2
      have e : pl h v n = n := by omega
      rw [e] at ih
      split at hi
      · exact ih i hi
      · rename_i h3
        rcases Nat.lt_or_ge i n with q | q
        · exact ih i q
        · have : i = n := by omega
          subst this
          exact h3
theorem pl_at (h : Nat → Int32) (v : Int32) : ∀ n, pl h v n < n → h (pl h v n) = v
  | 0, hn => absurd hn (Nat.not_lt_zero _)
  | n + 1, hn => by
    have ih := pl_at h v n
    unfold pl at hn ⊢
    split
    · rename_i h2; exact ih h2
    · rename_i h2
      rw [if_neg h2] at hn
      split
      · rename_i h3; exact h3
      · rename_i h3
        rw [if_neg h3] at hn
        omega
theorem pl_eq {h : Nat → Int32} {v : Int32} {n i : Nat} (hi : i < n) (e : h i = v) (hb : ∀ j, j < i → h j ≠ v) : pl h v n = i := by
  have h1 := pl_le h v n
  rcases Nat.lt_or_ge (pl h v n) i with q | q
  · exact absurd (pl_at h v n (by omega)) (hb _ q)
  · rcases Nat.lt_or_ge i (pl h v n) with q2 | q2
    · exact absurd e (pl_lt h v n i q2)
    · omega
theorem pl_none {h : Nat → Int32} {v : Int32} {n : Nat} (hb : ∀ j, j < n → h j ≠ v) : pl h v n = n := by
  have h1 := pl_le h v n
  rcases Nat.lt_or_ge (pl h v n) n with q | q
  · exact absurd (pl_at h v n q) (hb _ q)
  · omega
theorem pl_congr {h h2 : Nat → Int32} {v : Int32} {n : Nat} (e : ∀ i, i < n → h i = h2 i) : pl h v n = pl h2 v n := by
  rcases Nat.lt_or_ge (pl h v n) n with q | q
  · refine (pl_eq q ?_ (fun j hj => ?_)).symm
    · rw [← e _ q]; exact pl_at h v n q
    · rw [← e j (by omega)]; exact pl_lt h v n j hj
  · have h1 := pl_le h v n
    have e2 : pl h2 v n = n := pl_none (fun j hj => by rw [← e j hj]; exact pl_lt h v n j (by omega))
    omega
def plr (h : Nat → Int32) (v : Int32) (n : Nat) : Int32 := if pl h v n < n then nI (pl h v n) else -2000000
/-- placeOf of the class -/
theorem c6_placeOf_2 {s b c : Nat} {v : Int32} {Q : Int32 → Mem → Prop} {M : Mem} {n : Nat} (hn : n ≤ 4) (hs : M.1 (7, s, b, c) 3 = nI n) (hQ : Q (plr (M.1 (8, s, b, c)) v n) M) : ∀ m i, i + m = n → (∀ j, j < i → M.1 (8, s, b, c) j ≠ v) → w_X6_placeOf_2 s b c v Q (m + 1) (nI i) M := by
  intro m
  induction m with
  | zero =>
    intro i hi hb
    have : i = n := by omega
    subst this
    rw [w_X6_placeOf_2, hs, if_pos (by rw [nI_leI (by omega) (by omega)]; omega)]
    unfold plr at hQ
    rw [pl_none hb, if_neg (by omega)] at hQ
    exact hQ
  | succ m ih =>
    intro i hi hb
    rw [w_X6_placeOf_2, hs, if_neg (by rw [nI_leI (by omega) (by omega)]; omega)]
    refine ⟨vpT (by omega) (by omega), ?_⟩
    rw [nI_clamp (by omega)]
    by_cases e : M.1 (8, s, b, c) i = v
    · rw [if_pos e]
      unfold plr at hQ
      have e2 : pl (M.1 (8, s, b, c)) v n = i := pl_eq (by omega) e hb
      rw [e2, if_pos (by omega)] at hQ
      exact hQ
    · rw [if_neg e, nI_1]
      refine ih (i + 1) (by omega) (fun j hj => ?_)
      rcases Nat.lt_or_ge j i with q | q
      · exact hb j q
      · have : j = i := by omega
        subst this
        exact e
theorem c6_placeOf {s b c : Nat} {v : Int32} {Q : Int32 → Mem → Prop} {M : Mem} {n : Nat} (hn : n ≤ 4) (hs : M.1 (7, s, b, c) 3 = nI n) (hQ : Q (plr (M.1 (8, s, b, c)) v n) M) : w_X6_placeOf s b c v Q M :=
  ⟨n + 1, c6_placeOf_2 hn hs hQ n 0 (by omega) (fun j hj => absurd hj (Nat.not_lt_zero j))⟩
/-- placeOf of the reference -/
theorem c9_placeOf_2 {k : Nat} (hk : k < 24) {v : Int32} {Q : Int32 → Mem → Prop} {M : Mem} {n : Nat} (hn : n ≤ 4) (hs : M.1 (32, 0, 0, 0) (12 * k + 3) = nI n) (hQ : Q (plr (fun i => M.1 (32, 0, 0, 0) (12 * k + 4 + i)) v n) M) : ∀ m i, i + m = n → (∀ j, j < i → M.1 (32, 0, 0, 0) (12 * k + 4 + j) ≠ v) → w_X9_placeOf_2 (nI k) v Q (m + 1) (nI i) M := by
  intro m
  induction m with
  | zero =>
    intro i hi hb
    have : i = n := by omega
    subst this
    rw [w_X9_placeOf_2, nI_ml, nI_al]
    refine ⟨vpT (by omega) (by omega), ?_⟩
    rw [nI_clamp (by omega), hs, if_pos (by rw [nI_leI (by omega) (by omega)]; omega)]
    unfold plr at hQ
    rw [pl_none (h := fun i => M.1 (32, 0, 0, 0) (12 * k + 4 + i)) hb, if_neg (by omega)] at hQ
    exact hQ
  | succ m ih =>
    intro i hi hb
    rw [w_X9_placeOf_2, nI_ml, nI_al]
    refine ⟨vpT (by omega) (by omega), ?_⟩
    rw [nI_clamp (by omega), hs, if_neg (by rw [nI_leI (by omega) (by omega)]; omega), nI_al, nI_add]
    refine ⟨vpT (by omega) (by omega), ?_⟩
    rw [nI_clamp (by omega)]
    by_cases e : M.1 (32, 0, 0, 0) (12 * k + 4 + i) = v
    · rw [if_pos e]
      unfold plr at hQ
      have e2 : pl (fun i => M.1 (32, 0, 0, 0) (12 * k + 4 + i)) v n = i := pl_eq (by omega) e hb
      rw [e2, if_pos (by omega)] at hQ
      exact hQ
    · rw [if_neg e, nI_1]
      refine ih (i + 1) (by omega) (fun j hj => ?_)
      rcases Nat.lt_or_ge j i with q | q
      · exact hb j q
      · have : j = i := by omega
        subst this
        exact e
theorem c9_placeOf {k : Nat} (hk : k < 24) {v : Int32} {Q : Int32 → Mem → Prop} {M : Mem} {n : Nat} (hn : n ≤ 4) (hs : M.1 (32, 0, 0, 0) (12 * k + 3) = nI n) (hQ : Q (plr (fun i => M.1 (32, 0, 0, 0) (12 * k + 4 + i)) v n) M) : w_X9_placeOf (nI k) v Q M :=
  ⟨n + 1, c9_placeOf_2 hk hn hs hQ n 0 (by omega) (fun j hj => absurd hj (Nat.not_lt_zero j))⟩
