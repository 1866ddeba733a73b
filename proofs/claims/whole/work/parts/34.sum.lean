/-- come of the class -/
theorem c6_lg {s b c k : Nat} {v : Int32} {M : Mem} {f : Nat → Int32} (hR : RSum M s b c f k) : RSum (mr M (7, s, b, c) (upd (upd (M.1 (7, s, b, c)) 0 (lo0 (f (12 * k)) v)) 1 (hi0 (f (12 * k + 1)) v))) s b c (lgF f k v) k := by
  obtain ⟨r0, r1, r2, r3⟩ := hR
  unfold RSum
  rw [mr_at, mr_ne _ _ (by simp), mr_ne _ _ (by simp), lgF_hi _ _ _ (j := 2) (by omega), lgF_hi _ _ _ (j := 3) (by omega)]
  refine ⟨?_, ?_, ?_, ?_⟩
  · unfold lgF
    rw [upd_ne _ _ (by omega), upd_at, upd_ne _ _ (by omega), upd_at]
  · unfold lgF
    rw [upd_at, upd_at]
  · rw [upd_ne _ _ (by omega), upd_ne _ _ (by omega)]; exact r2
  · rcases r3 with ⟨h1, h2, h3⟩ | ⟨n, hn, h1, h2, h3, h4⟩
    · refine Or.inl ⟨h1, ?_, ?_⟩
      · rw [upd_ne _ _ (by omega), upd_ne _ _ (by omega)]; exact h2
      · rw [upd_ne _ _ (by omega), upd_ne _ _ (by omega)]; exact h3
    · refine Or.inr ⟨n, hn, h1, ?_, ?_, fun i hi => ?_⟩
      · rw [upd_ne _ _ (by omega), upd_ne _ _ (by omega)]; exact h2
      · rw [upd_ne _ _ (by omega), upd_ne _ _ (by omega)]; exact h3
      · rw [Nat.add_assoc (12 * k) 4 i, Nat.add_assoc (12 * k) 8 i, lgF_hi _ _ _ (by omega), lgF_hi _ _ _ (by omega), ← Nat.add_assoc, ← Nat.add_assoc]
        exact h4 i hi
theorem c6_come {s b c k : Nat} {v : Int32} {Q : Mem → Prop} {M : Mem} {f : Nat → Int32} (hR : RSum M s b c f k) (hQ : ∀ M1, fr3 M M1 s b c → RSum M1 s b c (comeF f k v) k → Q M1) : w_X6_come s b c v Q M := by
  unfold w_X6_come
  unfold comeF at hQ
  have hR0 := hR
  obtain ⟨r0, r1, r2, r3⟩ := hR0
  by_cases hv : v = 1000
  · rw [if_pos hv] at hQ ⊢
    refine hQ _ (fr3.mr7 M s b c _) ?_
    rw [mu_of0, r2]
    unfold RSum
    rw [mr_at, mr_ne _ _ (by simp), mr_ne _ _ (by simp), upd_at, upd_at, upd_ne _ _ (by omega), upd_ne _ _ (by omega), upd_ne _ _ (by omega), upd_ne _ _ (by omega), upd_ne _ _ (by omega), upd_ne _ _ (by omega), upd_ne _ _ (by omega)]
    refine ⟨r0, r1, rfl, ?_⟩
    rcases r3 with h | ⟨n, hn, h1, h2, h3, h4⟩
    · exact Or.inl h
    · refine Or.inr ⟨n, hn, h1, h2, h3, fun i hi => ?_⟩
      rw [upd_ne _ _ (by omega), upd_ne _ _ (by omega)]
      exact h4 i hi
  · rw [if_neg hv] at hQ ⊢
    have key : ∀ M1, M1 = mr M (7, s, b, c) (upd (upd (M.1 (7, s, b, c)) 0 (lo0 (f (12 * k)) v)) 1 (hi0 (f (12 * k + 1)) v)) → (if M1.1 (7, s, b, c) 4 = 0 then w_X6_enlist s b c v (fun M77 => Q M77) M1 else Q M1) := by
      intro M1 e
      have hR1 : RSum M1 s b c (lgF f k v) k := by rw [e]; exact c6_lg hR
      have hf1 : fr3 M M1 s b c := by rw [e]; exact fr3.mr7 M s b c _
      rcases hR1.2.2.2 with ⟨h1, h2, h3⟩ | ⟨n, hn, h1, h2, h3, h4⟩
      · rw [h2, if_neg (by decide)]
        refine hQ _ hf1 ?_
        rw [enF_m1 h1]
        exact hR1
      · rw [h2, if_pos rfl]
        exact c6_enlist hn h1 hR1 (fun M2 hf2 hR2 => hQ M2 (hf1.tr hf2) hR2)
    have e1 : ∀ x, (mu M (7, s, b, c) 0 x).1 (7, s, b, c) 1 = f (12 * k + 1) := fun x => by rw [mu_row, upd_ne _ _ (by omega), r1]
    have e2 : ∀ x y, mu (mu M (7, s, b, c) 0 x) (7, s, b, c) 1 y = mr M (7, s, b, c) (upd (upd (M.1 (7, s, b, c)) 0 x) 1 y) := fun x y => by rw [mu_of0 M, mu_mr]
    simp only [e1, e2, r0]
    unfold lo0 hi0 at key
    by_cases h2 : f (12 * k) = -2000000
    · rw [if_pos h2] at key ⊢
      by_cases h3 : f (12 * k + 1) = -2000000
      · rw [if_pos h3] at key ⊢
        exact key _ rfl
      · rw [if_neg h3] at key ⊢
        exact fun M65 e => key M65 e
    · rw [if_neg h2] at key ⊢
      by_cases h3 : f (12 * k + 1) = -2000000
      · rw [if_pos h3] at key ⊢
        exact key _ rfl
      · rw [if_neg h3] at key ⊢
        exact fun M65 e => key M65 e
/-- a number goes -/
def leaveF (f : Nat → Int32) (k : Nat) (v : Int32) : Nat → Int32 :=
  if v = 1000 then upd f (12 * k + 2) (f (12 * k + 2) - 1)
  else if f (12 * k + 3) < 0 then f
  else if pl (fun i => f (12 * k + 4 + i)) v (f (12 * k + 3)).toNatClampNeg < (f (12 * k + 3)).toNatClampNeg then upd f (12 * k + 8 + pl (fun i => f (12 * k + 4 + i)) v (f (12 * k + 3)).toNatClampNeg) (f (12 * k + 8 + pl (fun i => f (12 * k + 4 + i)) v (f (12 * k + 3)).toNatClampNeg) - 1)
  else f
theorem c6_leave {s b c k : Nat} {v : Int32} {Q : Mem → Prop} {M : Mem} {f : Nat → Int32} (hR : RSum M s b c f k) (hQ : ∀ M1, fr3 M M1 s b c → RSum M1 s b c (leaveF f k v) k → Q M1) : w_X6_leave s b c v Q M := by
  unfold w_X6_leave
  unfold leaveF at hQ
  have hR0 := hR
  obtain ⟨r0, r1, r2, r3⟩ := hR0
  by_cases hv : v = 1000
  · rw [if_pos hv] at hQ ⊢
    refine hQ _ (fr3.mr7 M s b c _) ?_
    rw [mu_of0, r2]
    unfold RSum
    rw [mr_at, mr_ne _ _ (by simp), mr_ne _ _ (by simp), upd_at, upd_at, upd_ne _ _ (by omega), upd_ne _ _ (by omega), upd_ne _ _ (by omega), upd_ne _ _ (by omega), upd_ne _ _ (by omega), upd_ne _ _ (by omega), upd_ne _ _ (by omega)]
    refine ⟨r0, r1, rfl, ?_⟩
    rcases r3 with h | ⟨n, hn, h1, h2, h3, h4⟩
    · exact Or.inl h
    · refine Or.inr ⟨n, hn, h1, h2, h3, fun i hi => ?_⟩
      rw [upd_ne _ _ (by omega), upd_ne _ _ (by omega)]
      exact h4 i hi
  · rw [if_neg hv] at hQ ⊢
    rcases r3 with ⟨h1, h2, h3⟩ | ⟨n, hn, h1, h2, h3, h4⟩
    · rw [h1, if_pos m1_lt] at hQ
      refine c6_placeOf (n := 0) (by omega) (by rw [h3]; rfl) ?_
      unfold plr
      rw [if_neg (Nat.not_lt_zero (pl (M.1 (8, s, b, c)) v 0)), if_pos rfl]
      exact hQ _ fr3.rf hR
    · rw [h1, if_neg (nI_nn (by omega)), nI_clamp (by omega)] at hQ
      refine c6_placeOf hn h3 ?_
      have ep : pl (M.1 (8, s, b, c)) v n = pl (fun i => f (12 * k + 4 + i)) v n := pl_congr (fun i hi => (h4 i hi).1)
      unfold plr
      rw [ep]
      by_cases hp : pl (fun i => f (12 * k + 4 + i)) v n < n
      · have hp4 := pl_le (fun i => f (12 * k + 4 + i)) v n
        rw [if_pos hp] at hQ
        rw [if_pos hp, if_neg (nI_neN (by omega))]
        refine ⟨vpT (by omega) (by omega), vpT (by omega) (by omega), ?_⟩
        rw [nI_clamp (by omega)]
        refine hQ _ (fr3.mr9 M s b c _) ?_
        obtain ⟨q, hq⟩ : ∃ q, q = pl (fun i => f (12 * k + 4 + i)) v n := ⟨_, rfl⟩
        rw [← hq] at hp ⊢
        rw [mu_of0]
        unfold RSum
        rw [mr_ne _ _ (by simp), mr_ne _ _ (by simp), mr_at, upd_ne _ _ (by omega), upd_ne _ _ (by omega), upd_ne _ _ (by omega), upd_ne _ _ (by omega)]
        refine ⟨r0, r1, r2, Or.inr ⟨n, hn, h1, h2, h3, fun i hi => ?_⟩⟩
        rw [upd_ne _ _ (by omega)]
        refine ⟨(h4 i hi).1, ?_⟩
        by_cases ei : i = q
        · subst ei
          rw [upd_at, upd_at, (h4 i hi).2]
        · rw [upd_ne _ _ ei, upd_ne _ _ (by omega)]
          exact (h4 i hi).2
      · rw [if_neg hp] at hQ
        rw [if_neg hp, if_pos rfl]
        exact hQ _ fr3.rf hR
def clrF (f : Nat → Int32) (k : Nat) : Nat → Int32 := fun j => if 12 * k ≤ j ∧ j < 12 * k + 12 then (if j < 12 * k + 2 then -2000000 else 0) else f j
theorem clr_clrF (M : Mem) (k : Nat) : clr M k 12 = mr M (32, 0, 0, 0) (clrF (M.1 (32, 0, 0, 0)) k) := rfl
theorem clrF_at (f : Nat → Int32) (k : Nat) {j : Nat} (h : j < 12) : clrF f k (12 * k + j) = if j < 2 then -2000000 else 0 := by
  unfold clrF
  rw [if_pos (by omega)]
  by_cases h2 : j < 2
  · rw [if_pos h2, if_pos (by omega)]
  · rw [if_neg h2, if_neg (by omega)]
theorem c6_clear {s b c k : Nat} {Q : Mem → Prop} {M : Mem} {f : Nat → Int32} (hQ : ∀ M1, fr3 M M1 s b c → RSum M1 s b c (clrF f k) k → Q M1) : w_X6_clear s b c Q M := by
  refine w6_clear (fun r h0 h1 h2 h3 h4 h5 => hQ _ (fr3.mr7 M s b c _) ?_)
  unfold RSum
  have e0 := clrF_at f k (j := 0) (by omega)
  simp only [Nat.add_zero] at e0
  rw [mr_at, e0, clrF_at f k (j := 1) (by omega), clrF_at f k (j := 2) (by omega), clrF_at f k (j := 3) (by omega), h0, h1, h2, h3, h4]
  exact ⟨rfl, rfl, rfl, Or.inr ⟨0, by omega, rfl, rfl, rfl, fun i hi => absurd hi (Nat.not_lt_zero i)⟩⟩
