/-! the class's summary of a column holds what the reference's row f says of the column k -/
def RSum (M : Mem) (s b c : Nat) (f : Nat → Int32) (k : Nat) : Prop :=
  M.1 (7, s, b, c) 0 = f (12 * k) ∧ M.1 (7, s, b, c) 1 = f (12 * k + 1) ∧ M.1 (7, s, b, c) 2 = f (12 * k + 2) ∧ ((f (12 * k + 3) = -1 ∧ M.1 (7, s, b, c) 4 = 1 ∧ M.1 (7, s, b, c) 3 = 0) ∨ ∃ n, n ≤ 4 ∧ f (12 * k + 3) = nI n ∧ M.1 (7, s, b, c) 4 = 0 ∧ M.1 (7, s, b, c) 3 = nI n ∧ ∀ i, i < n → M.1 (8, s, b, c) i = f (12 * k + 4 + i) ∧ M.1 (9, s, b, c) i = f (12 * k + 8 + i))
/-- only the cells of a summary were written -/
def fr3 (M M1 : Mem) (s b c : Nat) : Prop := (∀ i, ¬ jS s b c i → M1.1 i = M.1 i) ∧ M1.2 = M.2
theorem RSum.ok {M : Mem} {s b c : Nat} {f : Nat → Int32} {k : Nat} (h : RSum M s b c f k) : okF f k := by
  rcases h.2.2.2 with h | ⟨n, hn, h, -⟩
  · exact Or.inl h.1
  · exact Or.inr ⟨n, hn, h⟩
theorem fr3.rf {M : Mem} {s b c : Nat} : fr3 M M s b c := ⟨fun _ _ => rfl, rfl⟩
theorem fr3.tr {M M1 M2 : Mem} {s b c : Nat} (h : fr3 M M1 s b c) (h2 : fr3 M1 M2 s b c) : fr3 M M2 s b c := ⟨fun i hi => (h2.1 i hi).trans (h.1 i hi), h2.2.trans h.2⟩
theorem fr3.mr7 (M : Mem) (s b c : Nat) (r : Nat → Int32) : fr3 M (mr M (7, s, b, c) r) s b c := ⟨fun i hi => mr_ne _ _ (fun e => hi (Or.inl e)), rfl⟩
theorem fr3.mr8 (M : Mem) (s b c : Nat) (r : Nat → Int32) : fr3 M (mr M (8, s, b, c) r) s b c := ⟨fun i hi => mr_ne _ _ (fun e => hi (Or.inr (Or.inl e))), rfl⟩
theorem fr3.mr9 (M : Mem) (s b c : Nat) (r : Nat → Int32) : fr3 M (mr M (9, s, b, c) r) s b c := ⟨fun i hi => mr_ne _ _ (fun e => hi (Or.inr (Or.inr e))), rfl⟩
theorem RSum.keep {M M1 : Mem} {s b c : Nat} {f : Nat → Int32} {k : Nat} (h : RSum M s b c f k) (h7 : M1.1 (7, s, b, c) = M.1 (7, s, b, c)) (h8 : M1.1 (8, s, b, c) = M.1 (8, s, b, c)) (h9 : M1.1 (9, s, b, c) = M.1 (9, s, b, c)) : RSum M1 s b c f k := by
  unfold RSum
  rw [h7, h8, h9]
  exact h
theorem RSum.row {M : Mem} {s b c : Nat} {f f2 : Nat → Int32} {k k2 : Nat} (h : RSum M s b c f k) (e : ∀ j, j < 12 → f2 (12 * k2 + j) = f (12 * k + j)) : RSum M s b c f2 k2 := by
  have e0 := e 0 (by omega)
  simp only [Nat.add_zero] at e0
  unfold RSum
  rw [e0, e 1 (by omega), e 2 (by omega), e 3 (by omega)]
  refine ⟨h.1, h.2.1, h.2.2.1, ?_⟩
  rcases h.2.2.2 with h | ⟨n, hn, h1, h2, h3, h4⟩
  · exact Or.inl h
  · refine Or.inr ⟨n, hn, h1, h2, h3, fun i hi => ?_⟩
    rw [Nat.add_assoc (12 * k2) 4 i, Nat.add_assoc (12 * k2) 8 i, e (4 + i) (by omega), e (8 + i) (by omega), ← Nat.add_assoc, ← Nat.add_assoc]
    exact h4 i hi
theorem c6_enlist {s b c k n : Nat} {v : Int32} {Q : Mem → Prop} {M : Mem} {g : Nat → Int32} (hn : n ≤ 4) (h3 : g (12 * k + 3) = nI n) (hR : RSum M s b c g k) (hQ : ∀ M1, fr3 M M1 s b c → RSum M1 s b c (enF g k v) k → Q M1) : w_X6_enlist s b c v Q M := by
  obtain ⟨r0, r1, r2, r3⟩ := hR
  rcases r3 with ⟨h, -⟩ | ⟨n2, hn2, h, r4, r5, r6⟩
  · rw [h3] at h
    exact absurd (h ▸ nI_nn (n := n) (by omega)) (fun q => q m1_lt)
  · have e : n2 = n := (nI_eq (by omega) (by omega)).mp (h.symm.trans h3)
    subst e
    refine c6_placeOf hn r5 ?_
    have ep : pl (M.1 (8, s, b, c)) v n2 = pl (fun i => g (12 * k + 4 + i)) v n2 := pl_congr (fun i hi => (r6 i hi).1)
    unfold plr
    rw [ep]
    by_cases hp : pl (fun i => g (12 * k + 4 + i)) v n2 < n2
    · rw [enF_in hn h3 hp] at hQ
      have hp4 := pl_le (fun i => g (12 * k + 4 + i)) v n2
      rw [if_pos hp, if_neg (nI_neN (by omega))]
      refine ⟨vpT (by omega) (by omega), vpT (by omega) (by omega), ?_⟩
      rw [nI_clamp (by omega)]
      refine hQ _ (fr3.mr9 M s b c _) ?_
      obtain ⟨q, hq⟩ : ∃ q, q = pl (fun i => g (12 * k + 4 + i)) v n2 := ⟨_, rfl⟩
      rw [← hq] at hp ⊢
      rw [mu_of0]
      unfold RSum
      rw [mr_ne _ _ (by simp), mr_ne _ _ (by simp), mr_at, upd_ne _ _ (by omega), upd_ne _ _ (by omega), upd_ne _ _ (by omega), upd_ne _ _ (by omega)]
      refine ⟨r0, r1, r2, Or.inr ⟨n2, hn, h3, r4, r5, fun i hi => ?_⟩⟩
      rw [upd_ne _ _ (by omega)]
      refine ⟨(r6 i hi).1, ?_⟩
      by_cases ei : i = q
      · subst ei
        rw [upd_at, upd_at, (r6 i hi).2]
      · rw [upd_ne _ _ ei, upd_ne _ _ (by omega)]
        exact (r6 i hi).2
    · rw [if_neg hp, if_pos rfl, r5]
      by_cases h4 : n2 = 4
      · subst h4
        rw [enF_full h3 hp] at hQ
        rw [if_pos (show (4 : Int32) ≤ nI 4 by decide)]
        have e7 : mu (mu M (7, s, b, c) 4 1) (7, s, b, c) 3 0 = mr M (7, s, b, c) (upd (upd (M.1 (7, s, b, c)) 4 1) 3 0) := by rw [mu_of0 M, mu_mr]
        rw [e7]
        refine hQ _ (fr3.mr7 M s b c _) ?_
        unfold RSum
        rw [mr_at, mr_ne _ _ (by simp), mr_ne _ _ (by simp)]
        simp only [upd]
        simp
        exact ⟨r0, r1, r2⟩
      · rw [enF_new (by omega) h3 hp] at hQ
        rw [if_neg (by rw [nI_lel (by omega) (by omega)]; omega)]
        have e8 : (mu M (8, s, b, c) (nI n2).toNatClampNeg v).1 (7, s, b, c) 3 = nI n2 := by rw [mu_ne _ _ _ (by simp), r5]
        rw [e8]
        refine ⟨vpT (by omega) (by omega), vpT (by omega) (by omega), fun M52 e => ?_⟩
        rw [nI_clamp (by omega)] at e
        have e9 : M52.1 (7, s, b, c) = M.1 (7, s, b, c) := by rw [e, mu_ne _ _ _ (by simp), mu_ne _ _ _ (by simp)]
        have e10 : M52.1 (8, s, b, c) = upd (M.1 (8, s, b, c)) n2 v := by rw [e, mu_ne _ _ _ (by simp), mu_row]
        have e11 : M52.1 (9, s, b, c) = upd (M.1 (9, s, b, c)) n2 1 := by rw [e, mu_row, mu_ne _ _ _ (by simp)]
        have ef : fr3 M M52 s b c := by rw [e]; exact (fr3.mr8 M s b c _).tr (fr3.mr9 _ s b c _)
        rw [e9, r5, nI_1]
        refine hQ _ (ef.tr (fr3.mr7 M52 s b c _)) ?_
        rw [mu_of0, e9]
        unfold RSum
        rw [mr_at, mr_ne _ _ (by simp), mr_ne _ _ (by simp), e10, e11]
        refine ⟨?_, ?_, ?_, Or.inr ⟨n2 + 1, by omega, ?_, ?_, ?_, fun i hi => ?_⟩⟩
        · rw [upd_ne _ _ (by omega), upd_ne _ _ (by omega), upd_ne _ _ (by omega), upd_ne _ _ (by omega)]; exact r0
        · rw [upd_ne _ _ (by omega), upd_ne _ _ (by omega), upd_ne _ _ (by omega), upd_ne _ _ (by omega)]; exact r1
        · rw [upd_ne _ _ (by omega), upd_ne _ _ (by omega), upd_ne _ _ (by omega), upd_ne _ _ (by omega)]; exact r2
        · rw [upd_at]
        · rw [upd_ne _ _ (by omega)]; exact r4
        · rw [upd_at]
        · rw [upd_ne _ _ (j := 12 * k + 4 + i) (by omega), upd_ne _ _ (j := 12 * k + 8 + i) (k := 12 * k + 3) (by omega), upd_ne _ _ (j := 12 * k + 4 + i) (by omega)]
          by_cases ei : i = n2
          · subst ei
            rw [upd_at, upd_at, upd_at, upd_at]
            exact ⟨rfl, rfl⟩
          · rw [upd_ne _ _ ei, upd_ne _ _ ei, upd_ne _ _ (j := 12 * k + 4 + i) (by omega), upd_ne _ _ (j := 12 * k + 8 + i) (by omega), upd_ne _ _ (j := 12 * k + 8 + i) (by omega)]
            exact r6 i (by omega)
