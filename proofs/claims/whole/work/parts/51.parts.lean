/-! findParts -/
theorem psh_le2 {c : Nat} (h : c ≠ 3) : (psh c).length ≤ 2 := by
  unfold psh
  rw [if_neg h]
  repeat' split
  all_goals simp
def bas (g : Nat → Int32) (n : Nat) (E : Nat → Nat) (k : Nat) : Prop := ∃ r T, stk g k = some (r :: T) ∧ k < E k ∧ E k ≤ n ∧ stk g (E k) = some T
theorem bas_of {g : Nat → Int32} {n : Nat} {E : Nat → Nat} {k r : Nat} {T : List Nat} (h : bas g n E k) (e : stk g k = some (r :: T)) : k < E k ∧ E k ≤ n ∧ stk g (E k) = some T := by
  obtain ⟨r2, T2, e2, h1, h2, h3⟩ := h
  rw [e] at e2
  cases e2
  exact ⟨h1, h2, h3⟩
theorem ne_end {g : Nat → Int32} {n k r : Nat} {T : List Nat} (hn : stk g n = some []) (hk : k ≤ n) (e : stk g k = some (r :: T)) : k < n := by
  rcases Nat.lt_or_ge k n with h | h
  · exact h
  · have : k = n := by omega
    subst this
    rw [hn] at e
    cases e
theorem fig {g : Nat → Int32} {n k : Nat} {T : List Nat} (hn : stk g n = some []) (hk : k ≤ n) (e : stk g k = some (4 :: T)) : k < n ∧ isD (g k) ∧ stk g (k + 1) = some T := by
  have h1 := ne_end hn hk e
  obtain ⟨r, T2, e2, hk2, e3⟩ := stk_up hn h1
  rw [e] at e2
  cases e2
  have hd : isD (g k) := by
    refine Classical.byContradiction fun q => hk2 ?_
    show (if isD (g k) then 17 else 0) = 0
    rw [if_neg q]
  have e4 : knd 4 (g k) = 17 := if_pos hd
  rw [e4] at e3
  exact ⟨h1, hd, e3⟩
theorem stepE {g : Nat → Int32} {n q : Nat} {E : Nat → Nat} (hn : stk g n = some []) (hq : q < n) (h : ∀ k, q + 1 ≤ k → k < n → bas g n E k) : ∃ r T, stk g q = some (r :: T) ∧ knd r (g q) ≠ 0 ∧ (q < eqE E q (knd r (g q)) ∧ eqE E q (knd r (g q)) ≤ n ∧ stk g (eqE E q (knd r (g q))) = some T) ∧ (1 ≤ (psh (knd r (g q))).length → q + 1 < n) ∧ ((psh (knd r (g q))).length = 2 → q + 1 < E (q + 1) ∧ E (q + 1) < n) ∧ (knd r (g q) = 3 → q + 3 < n ∧ isD (g (q + 1)) ∧ isD (g (q + 2)) ∧ isD (g (q + 3))) ∧ (knd r (g q) = 8 → isD (g (E (q + 1)))) := by
  obtain ⟨r, T, e, hk, e2⟩ := stk_up hn hq
  refine ⟨r, T, e, hk, ?_⟩
  obtain ⟨c, hc⟩ : ∃ c, c = knd r (g q) := ⟨_, rfl⟩
  rw [← hc] at hk e2 ⊢
  clear hc
  by_cases h3 : c = 3
  · subst h3
    obtain ⟨a1, d1, s1⟩ := fig hn (by omega) (show stk g (q + 1) = some (4 :: 4 :: 4 :: T) from e2)
    obtain ⟨a2, d2, s2⟩ := fig hn (by omega) s1
    obtain ⟨a3, d3, s3⟩ := fig hn (by omega) s2
    exact ⟨⟨show q < q + 4 by omega, show q + 4 ≤ n by omega, s3⟩, fun _ => a1, fun q => absurd q (by decide), fun _ => ⟨a3, d1, d2, d3⟩, fun q => absurd q (by decide)⟩
  · have hl := psh_le2 h3
    match hp : psh c with
    | [] =>
      rw [hp] at e2
      have he : eqE E q c = q + 1 := by unfold eqE; rw [if_neg h3, hp]; rfl
      rw [he]
      exact ⟨⟨by omega, by omega, e2⟩, fun q => absurd q (by simp), fun q => absurd q (by simp), fun q => absurd q h3, fun q => by subst q; exact absurd hp (by decide)⟩
    | [a] =>
      rw [hp] at e2
      have he : eqE E q c = E (q + 1) := by unfold eqE; rw [if_neg h3, hp]; rfl
      have h1 := ne_end hn (by omega) e2
      have hb := bas_of (h (q + 1) (by omega) h1) e2
      rw [he]
      exact ⟨⟨by omega, hb.2.1, hb.2.2⟩, fun _ => h1, fun q => absurd q (by simp), fun q => absurd q h3, fun q => by subst q; simp [psh] at hp⟩
    | [a, b] =>
      rw [hp] at e2
      have he : eqE E q c = E (E (q + 1)) := by unfold eqE; rw [if_neg h3, hp]; rfl
      have h1 := ne_end hn (by omega) e2
      have hb := bas_of (h (q + 1) (by omega) h1) e2
      have h2 := ne_end hn hb.2.1 hb.2.2
      have hb2 := bas_of (h (E (q + 1)) (by omega) h2) hb.2.2
      rw [he]
      refine ⟨⟨by omega, hb2.2.1, hb2.2.2⟩, fun _ => h1, fun _ => ⟨hb.1, h2⟩, fun q => absurd q h3, fun e8 => ?_⟩
      subst e8
      have hb5 : b = 5 := by
        have : psh 8 = [2, 5] := by decide
        rw [this] at hp
        cases hp
        rfl
      subst hb5
      obtain ⟨r5, T5, e5, hk5, -⟩ := stk_up hn h2
      have e6 := hb.2.2
      change stk g (E (q + 1)) = some (5 :: T) at e6
      rw [e6] at e5
      cases e5
      refine Classical.byContradiction fun z => hk5 ?_
      rw [knd5, if_neg (fun y => z y.1)]
    | a :: b :: d :: l =>
      rw [hp] at hl
      simp at hl
def PK (g : Nat → Int32) (n : Nat) (M : Mem) (E : Nat → Nat) (k : Nat) : Prop := ∃ r T, stk g k = some (r :: T) ∧ k < E k ∧ E k ≤ n ∧ stk g (E k) = some T ∧ E k = eqE E k (knd r (g k)) ∧ M.1 (16, 0, 0, 0) k = nI (E k) ∧ (k + 1 < n → M.1 (14, 0, 0, 0) k = nI (E (k + 1))) ∧ numOK (M.1 (15, 0, 0, 0) k) g E k (knd r (g k))
theorem PK.bas {g : Nat → Int32} {n : Nat} {M : Mem} {E : Nat → Nat} {k : Nat} (h : PK g n M E k) : bas g n E k := by
  obtain ⟨r, T, h1, h2, h3, h4, -⟩ := h
  exact ⟨r, T, h1, h2, h3, h4⟩
theorem eqE_congr {E E2 : Nat → Nat} {k c n : Nat} (h : ∀ j, k < j → E2 j = E j) (h1 : k + 1 < E (k + 1) ∨ (psh c).length ≤ 1) : eqE E2 k c = eqE E k c := by
  unfold eqE
  by_cases a : c = 3
  · rw [if_pos a, if_pos a]
  · rw [if_neg a, if_neg a, h (k + 1) (by omega)]
    by_cases b : (psh c).length = 0
    · rw [if_pos b, if_pos b]
    · rw [if_neg b, if_neg b]
      by_cases d : (psh c).length = 1
      · rw [if_pos d, if_pos d]
      · rw [if_neg d, if_neg d, h _ (by omega)]
theorem c8_at {r0 : ix} {n0 : Nat} (hn : n0 < 2 ^ 31) {a : Int32} {Q : Int32 → Mem → Prop} {M : Mem} (hQ : ∀ v, (∀ p, p < n0 → a = nI p → v = M.1 r0 p) → Q v M) : w_X8_at r0 n0 a Q M := by
  unfold w_X8_at
  rcases xn a hn with h | ⟨p, hp, rfl⟩
  · have h0 : Q 0 M := hQ 0 (fun p hp e => by
      subst e
      rcases h with h | h
      · exact absurd h (nI_nn (by omega))
      · rw [nI_leI (by omega) (by omega)] at h
        omega)
    by_cases h1 : a < 0
    · rw [if_pos h1]; exact h0
    · rw [if_neg h1, if_pos (show Int32.ofNat n0 ≤ a from h.resolve_left h1)]; exact h0
  · have hle : ¬ nI n0 ≤ nI p := by rw [nI_leI (by omega) (by omega)]; omega
    rw [if_neg (nI_nn (by omega)), if_neg (show ¬ Int32.ofNat n0 ≤ nI p from hle)]
    refine ⟨vpT hp hn, ?_⟩
    rw [nI_clamp (by omega)]
    exact hQ _ (fun p2 hp2 e => by rw [(nI_eq (by omega) (by omega)).mp e])
theorem c1_figureAt {a : Int32} {Q : Int32 → Mem → Prop} {M : Mem} (hQ : ∀ v, (∀ p, p < 60 → a = nI p → isD (M.1 (12, 0, 0, 0) p) → v = M.1 (12, 0, 0, 0) p - 48) → Q v M) : w_X1_figureAt a Q M := by
  refine c8_at (by omega) (fun v hv => c8_isFigure (fun hd => ?_) (fun hd => ?_))
  · rw [if_neg (by decide)]
    exact hQ _ (fun p hp e _ => by rw [hv p hp e])
  · rw [if_pos rfl]
    exact hQ _ (fun p hp e hd2 => absurd ((hv p hp e) ▸ hd2) hd)
theorem c1_numberAt {q : Nat} (hq : q < 60) {Q : Int32 → Mem → Prop} {M : Mem} {g : Nat → Int32} (hg : M.1 (12, 0, 0, 0) = g) (hQ : ∀ v, (g q = 35 → q + 3 < 60 → isD (g (q + 1)) → isD (g (q + 2)) → isD (g (q + 3)) → v = 100 * (g (q + 1) - 48) + 10 * (g (q + 2) - 48) + (g (q + 3) - 48)) → (g q = 37 → ∀ p, p < 60 → M.1 (14, 0, 0, 0) q = nI p → isD (g p) → v = g p - 48) → (isD (g q) → v = g q - 48) → Q v M) : w_X1_numberAt (nI q) Q M := by
  unfold w_X1_numberAt
  rw [nI_clamp (by omega), hg]
  refine ⟨vpT (by omega) (by omega), ?_⟩
  by_cases e1 : g q = 35
  · rw [if_pos e1]
    refine c1_figureAt (fun v1 h1 => c1_figureAt (fun v2 h2 => c1_figureAt (fun v3 h3 => hQ _ (fun _ hb d1 d2 d3 => ?_) (fun h => ?_) (fun h => ?_))))
    · rw [hg] at h1 h2 h3
      rw [h1 (q + 1) (by omega) (nI_al _ _) d1, h2 (q + 2) (by omega) (nI_al _ _) d2, h3 (q + 3) (by omega) (nI_al _ _) d3]
    · rw [e1] at h; exact absurd h (by decide)
    · rw [e1] at h; exact absurd h (by decide)
  · rw [if_neg e1]
    refine ⟨vpT (by omega) (by omega), ?_⟩
    by_cases e2 : g q = 37
    · rw [if_pos e2]
      refine ⟨vpT (by omega) (by omega), c1_figureAt (fun v hv => hQ v (fun h => absurd h e1) (fun _ p hp e hd => ?_) (fun h => ?_))⟩
      · rw [hg] at hv
        exact hv p hp e hd
      · rw [e2] at h; exact absurd h (by decide)
    · rw [if_neg e2]
      refine c1_figureAt (fun v hv => hQ v (fun h => absurd h e1) (fun h => absurd h e2) (fun hd => ?_))
      rw [hg] at hv
      exact hv q hq rfl hd
