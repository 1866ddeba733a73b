/-! the start holds the relation; the loop of the law -/
theorem init_rel {M : Mem} (h : init0 M) : Rel M := by
  have hT : ∀ i, jT 0 i → M.1 i = m0 i := fun i hi => h i (Or.inl (Or.inr (Or.inl hi)))
  have hK : ∀ k, 29 ≤ k → k < 47 → M.1 (k, 0, 0, 0) = m0 (k, 0, 0, 0) := fun k h1 h2 => h _ (Or.inr ⟨k, h1, by omega, rfl⟩)
  have hQ : ∀ k, 11 ≤ k → k < 18 → M.1 (k, 0, 0, 0) = m0 (k, 0, 0, 0) := fun k h1 h2 => h _ (Or.inl (Or.inr (Or.inr (Or.inr (Or.inl ⟨k, h1, by omega, rfl⟩)))))
  have e10 : M.1 (10, 0, 0, 0) = m0 (10, 0, 0, 0) := h _ (Or.inl (Or.inr (Or.inr (Or.inl rfl))))
  have e32 : M.1 (32, 0, 0, 0) = fun k => if k < 288 ∧ k % 12 < 2 then -2000000 else 0 := hK 32 (by omega) (by omega)
  have v0 : ∀ k, k < 24 → M.1 (32, 0, 0, 0) (12 * k) = -2000000 := fun k hk => by rw [e32]; exact if_pos ⟨by omega, by omega⟩
  have v1 : ∀ k, k < 24 → M.1 (32, 0, 0, 0) (12 * k + 1) = -2000000 := fun k hk => by rw [e32]; exact if_pos ⟨by omega, by omega⟩
  have v2 : ∀ k, k < 24 → M.1 (32, 0, 0, 0) (12 * k + 2) = 0 := fun k hk => by rw [e32]; exact if_neg (by omega)
  have v3 : ∀ k, k < 24 → M.1 (32, 0, 0, 0) (12 * k + 3) = 0 := fun k hk => by rw [e32]; exact if_neg (by omega)
  refine ⟨⟨fun _ => 0, fun b hb => ⟨?_, ⟨?_, Nat.zero_le 8, fun r c hr => absurd hr (Nat.not_lt_zero r), fun c hc => ?_⟩, fun r c hr => absurd hr (Nat.not_lt_zero r), fun c hc => ⟨Or.inr ⟨0, by omega, by rw [v3 _ (by omega)]; rfl⟩, fun m i j hm e hi hj => ?_⟩⟩⟩, fun n hn => ⟨?_, fun hz => ?_⟩, 0, by omega, ?_, ?_⟩
  · rw [hK 31 (by omega) (by omega)]; rfl
  · rw [hT (3, 0, b, 0) (Or.inr (Or.inr ⟨b, hb, Or.inl rfl⟩))]; rfl
  · have e7 : M.1 (7, 0, b, c) = fun k => if k = 0 ∨ k = 1 then -2000000 else 0 := hT (7, 0, b, c) (Or.inr (Or.inr ⟨b, hb, Or.inr (Or.inr (Or.inr (Or.inr ⟨c, by omega, Or.inl rfl⟩)))⟩))
    refine ⟨?_, ?_, ?_, Or.inr ⟨0, by omega, ?_, ?_, ?_, fun i hi => absurd hi (Nat.not_lt_zero i)⟩⟩
    · rw [v0 _ (by omega), e7]; rfl
    · rw [v1 _ (by omega), e7]; rfl
    · rw [v2 _ (by omega), e7]; rfl
    · rw [v3 _ (by omega)]; rfl
    · rw [e7]; rfl
    · rw [e7]; rfl
  · rw [v3 _ (by omega), show (0 : Int32) = nI 0 from rfl, nI_eq (by omega) (by omega)] at e
    omega
  · rw [e10, hK 46 (by omega) (by omega)]
    exact ⟨fun _ => rfl, fun _ => rfl⟩
  · rw [e10] at hz
    exact absurd rfl hz
  · rw [hK 29 (by omega) (by omega)]; rfl
  · have e11 : M.1 (11, 0, 0, 0) = fun k => if k = 7 then 1 else if k = 8 then -2000000 else 0 := hQ 11 (by omega) (by omega)
    refine ⟨?_, ?_, fun i hi => absurd hi (Nat.not_lt_zero i), Or.inl ⟨[1], rfl, ?_, ?_, ⟨?_, trivial⟩, fun k hk => absurd hk (Nat.not_lt_zero k), fun q => absurd q (by simp)⟩⟩
    · rw [e11]; rfl
    · rw [hQ 12 (by omega) (by omega), hK 34 (by omega) (by omega)]; rfl
    · rw [e11]; rfl
    · rw [e11]; rfl
    · rw [hQ 17 (by omega) (by omega)]; rfl
theorem law_pure {xs : Nat → Int32} {L : Nat} (hL : L ≤ 3072) : ∀ n k x M, x = nI (6 * k) → n + k = 512 → Rel M → w_law xs L (n + 1) x M := by
  have hsub : (Int32.ofNat L - 6).toInt = (L : Int) - 6 := by
    rw [Int32.toInt_sub, show (Int32.ofNat L).toInt = (L : Int) from nI_toInt (by omega), show (6 : Int32).toInt = 6 by decide]
    exact bm32 (by omega) (by omega)
  intro n
  induction n with
  | zero =>
    intro k x M hx hk hR
    rw [w_law, if_pos]
    · trivial
    · rw [hx, i32_lt, hsub, nI_toInt (by omega)]
      omega
  | succ n ih =>
    intro k x M hx hk hR
    rw [w_law]
    by_cases hc : Int32.ofNat L - 6 < x
    · rw [if_pos hc]
      trivial
    rw [if_neg hc]
    have h6 : 6 * k + 6 ≤ L := by
      rw [hx, i32_lt, hsub, nI_toInt (by omega)] at hc
      omega
    have vp0 : vp_in x L := by rw [hx]; exact vpT (by omega) (by omega)
    have vp1 : vp_in (x + 1) L := by rw [hx, show nI (6 * k) + 1 = nI (6 * k + 1) from nI_al _ _]; exact vpT (by omega) (by omega)
    have vp2 : vp_in (x + 2) L := by rw [hx, show nI (6 * k) + 2 = nI (6 * k + 2) from nI_al _ _]; exact vpT (by omega) (by omega)
    have vp3 : vp_in (x + 3) L := by rw [hx, show nI (6 * k) + 3 = nI (6 * k + 3) from nI_al _ _]; exact vpT (by omega) (by omega)
    have vp4 : vp_in (x + 4) L := by rw [hx, show nI (6 * k) + 4 = nI (6 * k + 4) from nI_al _ _]; exact vpT (by omega) (by omega)
    have vp5 : vp_in (x + 5) L := by rw [hx, show nI (6 * k) + 5 = nI (6 * k + 5) from nI_al _ _]; exact vpT (by omega) (by omega)
    obtain ⟨y, hy⟩ : ∃ y, y = x + 6 := ⟨_, rfl⟩
    rw [← hy]
    have nxt : ∀ M2, Rel M2 → w_law xs L (n + 1) y M2 := fun M2 hR2 => ih (k + 1) y M2 (by rw [hy, hx, show nI (6 * k) + 6 = nI (6 * k + 6) from nI_al _ _, show 6 * k + 6 = 6 * (k + 1) by omega]) (by omega) hR2
    have fin : ∀ (r : Int32) (M1 M2 : Mem), M2.1 (10, 0, 0, 0) = M1.1 (10, 0, 0, 0) → Rel M2 → (M2.1 (10, 0, 0, 0) = M1.1 (10, 0, 0, 0) ∧ (if r = r then w_law xs L (n + 1) y M2 else False)) := fun r M1 M2 e hR2 => ⟨e, by rw [if_pos rfl]; exact nxt M2 hR2⟩
    refine ⟨vp0, ?_⟩
    by_cases c0 : xs x.toNatClampNeg &&& 31 = (0 : Int32)
    · rw [if_pos c0]
      exact ⟨vp1, vp2, vp3, vp4, vp5, o_add hR (fun r M1 h => ⟨h.1, vp1, vp2, vp3, vp4, vp5, h.2 _ (fun M2 e hR2 => fin r M1 M2 e hR2)⟩)⟩
    rw [if_neg c0]
    by_cases c1 : xs x.toNatClampNeg &&& 31 = (1 : Int32)
    · rw [if_pos c1]
      exact ⟨vp1, vp2, o_drop hR (fun r M1 h => ⟨h.1, vp1, vp2, h.2 _ (fun M2 e hR2 => fin r M1 M2 e hR2)⟩)⟩
    rw [if_neg c1]
    by_cases c2 : xs x.toNatClampNeg &&& 31 = (2 : Int32)
    · rw [if_pos c2]
      exact ⟨vp1, o_anew hR (fun r M1 h => ⟨h.1, vp1, h.2 _ (fun M2 e hR2 => fin r M1 M2 e hR2)⟩)⟩
    rw [if_neg c2]
    by_cases c3 : xs x.toNatClampNeg &&& 31 = (3 : Int32)
    · rw [if_pos c3]
      exact ⟨vp1, vp2, vp3, o_cell hR (fun r M1 h => ⟨h.1, vp1, vp2, vp3, h.2 _ (fun M2 e hR2 => fin r M1 M2 e hR2)⟩)⟩
    rw [if_neg c3]
    by_cases c4 : xs x.toNatClampNeg &&& 31 = (4 : Int32)
    · rw [if_pos c4]
      exact ⟨vp1, vp2, vp3, o_summary hR (fun r M1 h => ⟨h.1, vp1, vp2, vp3, h.2 _ (fun M2 e hR2 => fin r M1 M2 e hR2)⟩)⟩
    rw [if_neg c4]
    by_cases c5 : xs x.toNatClampNeg &&& 31 = (5 : Int32)
    · rw [if_pos c5]
      exact ⟨vp1, vp2, vp3, vp4, o_listed hR (fun r M1 h => ⟨h.1, vp1, vp2, vp3, vp4, h.2 _ (fun M2 e hR2 => fin r M1 M2 e hR2)⟩)⟩
    rw [if_neg c5]
    by_cases c6 : xs x.toNatClampNeg &&& 31 = (6 : Int32)
    · rw [if_pos c6]
      exact ⟨vp1, o_say hR (fun r M1 h => ⟨h.1, vp1, h.2 _ (fun M2 e hR2 => fin r M1 M2 e hR2)⟩)⟩
    rw [if_neg c6]
    by_cases c7 : xs x.toNatClampNeg &&& 31 = (7 : Int32)
    · rw [if_pos c7]
      exact o_wipe hR (fun r M1 h => ⟨h.1, h.2 _ (fun M2 e hR2 => fin r M1 M2 e hR2)⟩)
    rw [if_neg c7]
    by_cases c8 : xs x.toNatClampNeg &&& 31 = (8 : Int32)
    · rw [if_pos c8]
      exact o_fault hR (fun r M1 h => ⟨h.1, h.2 _ (fun M2 e hR2 => fin r M1 M2 e hR2)⟩)
    rw [if_neg c8]
    by_cases c9 : xs x.toNatClampNeg &&& 31 = (9 : Int32)
    · rw [if_pos c9]
      exact ⟨vp1, vp2, o_truth hR (fun r M1 h => ⟨h.1, vp1, vp2, h.2 _ (fun M2 e hR2 => fin r M1 M2 e hR2)⟩)⟩
    rw [if_neg c9]
    by_cases c10 : xs x.toNatClampNeg &&& 31 = (10 : Int32)
    · rw [if_pos c10]
      exact ⟨vp1, vp2, vp3, o_range hR (fun r M1 h => ⟨h.1, vp1, vp2, vp3, h.2 _ (fun M2 e hR2 => fin r M1 M2 e hR2)⟩)⟩
    rw [if_neg c10]
    by_cases c11 : xs x.toNatClampNeg &&& 31 = (11 : Int32)
    · rw [if_pos c11]
      exact ⟨vp1, vp2, o_may hR (fun r M1 h => ⟨h.1, vp1, vp2, h.2 _ (fun M2 e hR2 => fin r M1 M2 e hR2)⟩)⟩
    rw [if_neg c11]
    by_cases c12 : xs x.toNatClampNeg &&& 31 = (12 : Int32)
    · rw [if_pos c12]
      exact ⟨vp1, vp2, o_verdict hR (fun r M1 h => ⟨h.1, vp1, vp2, h.2 _ (fun M2 e hR2 => fin r M1 M2 e hR2)⟩)⟩
    rw [if_neg c12]
    by_cases c13 : xs x.toNatClampNeg &&& 31 = (13 : Int32)
    · rw [if_pos c13]
      exact ⟨vp1, o_answer hR (fun r M1 h => ⟨h.1, vp1, h.2 _ (fun M2 e hR2 => fin r M1 M2 e hR2)⟩)⟩
    rw [if_neg c13]
    by_cases c14 : xs x.toNatClampNeg &&& 31 = (14 : Int32)
    · rw [if_pos c14]
      exact ⟨vp1, vp2, o_total hR (fun r M1 h => ⟨h.1, vp1, vp2, h.2 _ (fun M2 e hR2 => fin r M1 M2 e hR2)⟩)⟩
    rw [if_neg c14]
    by_cases c15 : xs x.toNatClampNeg &&& 31 = (15 : Int32)
    · rw [if_pos c15]
      exact ⟨vp1, o_image hR (fun r M1 h => ⟨vp1, h _ (fun M2 e hR2 => fin r M1 M2 e hR2)⟩)⟩
    rw [if_neg c15]
    by_cases c16 : xs x.toNatClampNeg &&& 31 = (16 : Int32)
    · rw [if_pos c16]
      exact ⟨vp1, o_restore hR (fun r M1 h => ⟨h.1, vp1, h.2 _ (fun M2 e hR2 => fin r M1 M2 e hR2)⟩)⟩
    rw [if_neg c16]
    by_cases c17 : xs x.toNatClampNeg &&& 31 = (17 : Int32)
    · rw [if_pos c17]
      exact ⟨vp1, o_told hR (fun r M1 h => ⟨h.1, vp1, h.2 _ (fun M2 e hR2 => fin r M1 M2 e hR2)⟩)⟩
    rw [if_neg c17]
    exact nxt M hR
theorem whole_start {p : Program} {e : Env} {s : State} {m : MethodId} {below : List Frame} {meth : Method} {c : Code} (l : Launch) (hflags : l.flags = flags0) {b L : Nat} {xs : Nat → Int32} (hL : L ≤ 3072) (C0 : lw_At p s m meth c b L xs) : W p l e room_1 s m #[Value.ref b] below meth c s.heap [] 0 0 (lw_Z below #[Value.ref b] s) (entryFrame m ([Value.ref b] : List Value).toArray 4) :=
  start_open l C0 (fun M hM => law_pure hL 512 0 0 M rfl rfl (init_rel hM))
