/-! told -/
def smS (mn : Nat → Nat) : Nat → Int32
  | 0 => 0
  | b + 1 => smS mn b + nI (mn b)
theorem c5_countRows {M : Mem} {mn : Nat → Nat} (h3 : ∀ b, b < 6 → M.1 (3, 0, b, 0) 0 = nI (mn b)) {Q : Int32 → Mem → Prop} (hQ : Q (smS mn 6) M) : w_X5_countRows 0 Q M := by
  have loop : ∀ m b, b + m = 6 → w_X5_countRows_4 0 Q (m + 1) (smS mn b) (nI b) M := by
    intro m
    induction m with
    | zero =>
      intro b hb
      have : b = 6 := by omega
      subst this
      rw [w_X5_countRows_4, if_pos (by decide)]
      exact hQ
    | succ m ih =>
      intro b hb
      rw [w_X5_countRows_4, if_neg (by rw [nI_lel (by omega) (by omega)]; omega), nI_clamp (by omega), nI_1, h3 b (by omega)]
      exact ⟨vpT (by omega) (by omega), fun x ex => by rw [ex]; exact ih (b + 1) (by omega)⟩
  exact ⟨7, loop 6 0 rfl⟩
theorem c9_told_137 {M : Mem} {mn : Nat → Nat} {a1 : Int32} (h31 : ∀ b, b < 6 → M.1 (31, 0, 0, 0) b = nI (mn b)) {Q : Int32 → Mem → Prop} (hQ : Q (if a1 = 0 then M.1 (29, 0, 0, 0) 4 else if a1 = 1 then smS mn 6 else -2) M) : ∃ k0, w_X9_told_137 a1 Q k0 0 0 M := by
  have loop : ∀ m b, b + m = 6 → w_X9_told_137 a1 Q (m + 1) (smS mn b) (nI b) M := by
    intro m
    induction m with
    | zero =>
      intro b hb
      have : b = 6 := by omega
      subst this
      rw [w_X9_told_137, if_pos (by decide)]
      by_cases e0 : a1 = 0
      · rw [if_pos e0] at hQ ⊢; exact hQ
      rw [if_neg e0] at hQ ⊢
      by_cases e1 : a1 = 1
      · rw [if_pos e1] at hQ ⊢; exact hQ
      rw [if_neg e1] at hQ ⊢
      exact hQ
    | succ m ih =>
      intro b hb
      rw [w_X9_told_137, if_neg (by rw [nI_lel (by omega) (by omega)]; omega), nI_clamp (by omega), nI_1, h31 b (by omega)]
      exact ⟨vpT (by omega) (by omega), fun x ex => by rw [ex]; exact ih (b + 1) (by omega)⟩
  exact ⟨7, loop 6 0 rfl⟩
/-- one block alone -/
def mn1 (b m : Nat) : Nat → Nat := fun x => if x = b then m else 0
theorem mn1_at (b m : Nat) : mn1 b m b = m := if_pos rfl
theorem fst1 {b m r : Nat} {rr : Nat → Int32} : fst (mn1 b m) rr b r ↔ ∀ r2, r2 < r → ¬ like rr b r b r2 := by
  constructor
  · intro h r2 hr
    exact h b r2 (Or.inr ⟨rfl, hr⟩)
  · intro h b2 r2 q
    rcases q with q | q
    · have := q.2
      unfold mn1 at this
      rw [if_neg (by omega)] at this
      omega
    · obtain ⟨e, q⟩ := q
      subst e
      exact h r2 q
theorem c8_countUnlike {M0 : Mem} {rr kn : Nat → Int32} {b m : Nat} (hb : b < 6) (hB : RB M0 0 b rr kn m) (hent : ∀ r c, r < m → c < 4 → ent (rr (32 * b + 4 * r + c))) {Q : Int32 → Mem → Prop} (hQ : ∀ M1, look M0 M1 → Q (nI (crN (fun b r => fst (mn1 b m) rr b r) b m)) M1) : w_X8_countUnlike 0 b Q M0 := by
  have hm8 := hB.2.1
  have hent' : ∀ b' r c, b' < 6 → r < mn1 b m b' → c < 4 → ent (rr (32 * b' + 4 * r + c)) := by
    intro b' r c _ hr hc
    unfold mn1 at hr
    by_cases e : b' = b
    · subst e
      rw [if_pos rfl] at hr
      exact hent r c hr hc
    · rw [if_neg e] at hr
      omega
  have loop : ∀ d r M, r + d = m → look M0 M → KI M (crN (fun b r => fst (mn1 b m) rr b r) b r) (Pky (fun _ _ => True) (mn1 b m) rr b r) → w_X8_countUnlike_9 0 b Q (d + 1) (nI r) M := by
    intro d
    induction d with
    | zero =>
      intro r M hr l hK
      have : r = m := by omega
      subst this
      rw [w_X8_countUnlike_9, (l.rb hB).1, if_pos (by rw [nI_leI (by omega) (by omega)]; omega), hK.1]
      exact hQ M l
    | succ d ih =>
      intro r M hr l hK
      rw [w_X8_countUnlike_9, (l.rb hB).1, if_neg (by rw [nI_leI (by omega) (by omega)]; omega), nI_clamp (by omega), nI_1]
      have hcr := crN_le (fun b r => fst (mn1 b m) rr b r) b r
      have ek : ky4 (M.1 (5, 0, b, r)) 4 = ky4 (rwo rr b r) 4 := ky4_c (fun c hc => (l.rb hB).2.2.1 r c (by omega) hc)
      have kf := key_fst (mt := fun _ _ => True) (fun _ _ _ _ _ _ => trivial) hent' hb (show r < mn1 b m b by rw [mn1_at]; omega) trivial
      refine ⟨vpT (by omega) (by omega), c4_note (by omega) hK (fun hp => ?_) (fun hp M2 f2 hK2 => ?_)⟩
      · rw [ek] at hp
        refine ih (r + 1) M (by omega) l ?_
        rw [show crN (fun b r => fst (mn1 b m) rr b r) b (r + 1) = crN (fun b r => fst (mn1 b m) rr b r) b r from by show crN (fun b r => fst (mn1 b m) rr b r) b r + one (fst (mn1 b m) rr b r) = _; rw [one_f (kf.mp hp), Nat.add_zero]]
        refine hK.iff (fun k => ?_)
        rw [Pky_s]
        refine ⟨fun q => q.elim id (fun q => ?_), Or.inl⟩
        rw [← q.2]; exact hp
      · rw [ek] at hp hK2
        refine ih (r + 1) M2 (by omega) (l.tr (nte_look f2)) ?_
        rw [show crN (fun b r => fst (mn1 b m) rr b r) b (r + 1) = crN (fun b r => fst (mn1 b m) rr b r) b r + 1 from by show crN (fun b r => fst (mn1 b m) rr b r) b r + one (fst (mn1 b m) rr b r) = _; rw [one_t (Classical.byContradiction fun q => hp (kf.mpr q))]]
        refine hK2.iff (fun k => ?_)
        rw [Pky_s]
        exact ⟨fun q => q.imp id (fun q => q.2.symm), fun q => q.imp id (fun q => ⟨trivial, q.symm⟩)⟩
  unfold w_X8_countUnlike w_X4_clear
  refine ⟨m + 1, loop m 0 _ (by omega) (onl.look (onl.mr (l := [26]) _ (by simp)) (by simp)) ⟨by rw [mu_row, upd_at]; rfl, fun k => ⟨fun h => ?_, fun h => ?_⟩⟩⟩
  · obtain ⟨b2, r2, h1, -⟩ := h
    rcases h1 with h1 | h1
    · have := h1.2
      unfold mn1 at this
      rw [if_neg (by omega)] at this
      omega
    · omega
  · obtain ⟨i, h1, -⟩ := h
    exact absurd h1 (Nat.not_lt_zero i)
theorem c9_told_26 {M : Mem} {rr : Nat → Int32} {b m : Nat} {a1 : Int32} (hb : b < 6) (hm8 : m ≤ 8) (h30 : M.1 (30, 0, 0, 0) = rr) (h31 : M.1 (31, 0, 0, 0) b = nI m) {Q : Int32 → Mem → Prop} (hQ : Q (nI (crN (fun b r => fst (mn1 b m) rr b r) b m)) M) : ∃ k0, w_X9_told_26 a1 Q k0 (nI b) 0 0 M := by
  have i43 : ∀ r, r < m → ∀ (B : Int32 → Int32 → Int32 → Mem → Prop) (u : Nat), B (nI b) (nI (u + one (fst (mn1 b m) rr b r))) (nI (r + 1)) M → ∀ d r2, r2 + d = r → w_X9_told_43 a1 Q B (d + 1) (nI b) (nI u) (nI r) (bI (∀ r', r' < r2 → ¬ like rr b r b r')) (nI r2) M := by
    intro r hr B u hB d
    induction d with
    | zero =>
      intro r2 hr2
      have : r2 = r := by omega
      subst this
      rw [w_X9_told_43, if_pos (by rw [nI_leI (by omega) (by omega)]; omega), nI_1]
      by_cases f : fst (mn1 b m) rr b r2
      · rw [bI_t (fst1.mp f), if_neg (by decide)]
        rw [one_t f] at hB
        intro x ex
        rw [ex, nI_1]
        exact hB
      · rw [bI_f (fun q => f (fst1.mpr q)), if_pos rfl]
        rw [one_f f, Nat.add_zero] at hB
        intro x ex
        rw [ex, Int32.add_zero]
        exact hB
    | succ d ih =>
      intro r2 hr2
      rw [w_X9_told_43, if_neg (by rw [nI_leI (by omega) (by omega)]; omega), nI_1]
      have nxt := ih (r2 + 1) (by omega)
      have es : (∀ r', r' < r2 + 1 → ¬ like rr b r b r') ↔ (∀ r', r' < r2 → ¬ like rr b r b r') ∧ ¬ like rr b r b r2 := by
        constructor
        · exact fun h => ⟨fun r' q => h r' (by omega), h r2 (by omega)⟩
        · rintro ⟨h1, h2⟩ r' q
          rcases Nat.lt_or_ge r' r2 with z | z
          · exact h1 r' z
          · have : r' = r2 := by omega
            subst this
            exact h2
      by_cases f : ∀ r', r' < r2 → ¬ like rr b r b r'
      · rw [bI_t f, if_neg (by decide)]
        refine c9_isLike h30 hb (by omega) hb (by omega) (fun hl => ?_) (fun hl => ?_)
        · rw [if_neg (by decide)]
          rw [bI_f (fun q => (es.mp q).2 hl)] at nxt
          exact nxt
        · rw [if_pos rfl]
          rw [bI_t (es.mpr ⟨f, hl⟩)] at nxt
          exact nxt
      · rw [bI_f f, if_pos rfl]
        rw [bI_f (fun q => f (es.mp q).1)] at nxt
        exact nxt
  have loop : ∀ d r, r + d = m → w_X9_told_26 a1 Q (d + 1) (nI b) (nI (crN (fun b r => fst (mn1 b m) rr b r) b r)) (nI r) M := by
    intro d
    induction d with
    | zero =>
      intro r hr
      have : r = m := by omega
      subst this
      rw [w_X9_told_26, nI_clamp (by omega), h31, if_pos (by rw [nI_leI (by omega) (by omega)]; omega)]
      exact ⟨vpT (by omega) (by omega), hQ⟩
    | succ d ih =>
      intro r hr
      rw [w_X9_told_26, nI_clamp (by omega), h31, if_neg (by rw [nI_leI (by omega) (by omega)]; omega)]
      refine ⟨vpT (by omega) (by omega), ?_⟩
      have h := i43 r (by omega) (fun x2 x3 x4 M => w_X9_told_26 a1 Q (d + 1) x2 x3 x4 M) (crN (fun b r => fst (mn1 b m) rr b r) b r) (ih (r + 1) (by omega)) r 0 (by omega)
      rw [bI_t (fun r' q => absurd q (by omega))] at h
      exact ⟨r + 1, h⟩
  exact ⟨m + 1, loop m 0 (by omega)⟩
theorem sub_toInt {a : Int32} {k : Int32} (hk : 0 ≤ k.toInt) (h : k.toInt ≤ a.toInt) : (a - k).toInt = a.toInt - k.toInt := by
  have := a.toInt_lt
  have := a.le_toInt
  rw [Int32.toInt_sub]
  exact bm32 (by omega) (by omega)
/-- told -/
theorem o_told {a1 : Int32} {M : Mem} (hR : Rel M) {Q : Int32 → Mem → Prop} (hQ : ∀ r M1, OPK (w_X9_told a1) M r M1 → Q r M1) : w_X8_told a1 Q M := by
  have hR0 := hR
  obtain ⟨⟨mn, hS⟩, hI, n, hn, h29, hq⟩ := hR
  have h31 : ∀ b, b < 6 → M.1 (31, 0, 0, 0) b = nI (mn b) := fun b hb => (hS b hb).1
  have hB : ∀ b, b < 6 → RB M 0 b (M.1 (30, 0, 0, 0)) (M.1 (32, 0, 0, 0)) (mn b) := fun b hb => (hS b hb).2.1
  have hm8 : ∀ b, b < 6 → mn b ≤ 8 := fun b hb => (hB b hb).2.1
  have c10 : (10 : Int32).toInt = 10 := by decide
  have c20 : (20 : Int32).toInt = 20 := by decide
  have c6 : (6 : Int32).toInt = 6 := by decide
  have c0 : (0 : Int32).toInt = 0 := by decide
  unfold w_X8_told
  have low : a1 < 10 → ∀ x, x = (if a1 = 0 then M.1 (29, 0, 0, 0) 4 else if a1 = 1 then smS mn 6 else -2) → Q x M := by
    intro h x ex
    refine hQ _ _ (OPK.same hR0 fun Q q => ?_)
    unfold w_X9_told
    have h20 : a1 < 20 := by
      rw [i32_lt] at h ⊢
      omega
    rw [if_pos h20, if_pos h]
    refine c9_told_137 h31 ?_
    rw [← ex]
    exact q
  by_cases e0 : a1 = 0
  · rw [if_pos e0, hq.1]
    exact low (by rw [e0]; decide) _ (by rw [if_pos e0, h29])
  rw [if_neg e0]
  by_cases e1 : a1 = 1
  · rw [if_pos e1]
    exact c5_countRows (mn := mn) (fun b hb => (hB b hb).1) (low (by rw [e1]; decide) _ (by rw [if_neg e0, if_pos e1]))
  rw [if_neg e1]
  by_cases h10 : a1 < 10
  · have h20 : a1 < 20 := by
      rw [i32_lt] at h10 ⊢
      omega
    rw [if_pos h10, if_pos h20]
    exact low h10 _ (by rw [if_neg e0, if_neg e1])
  rw [if_neg h10]
  have g10 : 10 ≤ a1.toInt := by
    rw [i32_lt] at h10
    omega
  have s10 : (a1 - 10).toInt = a1.toInt - 10 := by rw [sub_toInt (by omega) (by omega), c10]
  by_cases h20 : a1 < 20
  · have l20 : a1.toInt < 20 := by
      rw [i32_lt] at h20
      omega
    rcases x6 (a1 - 10) with h | ⟨b, hb, e⟩
    · refine c8_isBlock0 h ?_
      rw [if_pos rfl, if_pos h20]
      refine hQ _ _ (OPK.same hR0 fun Q q => ?_)
      unfold w_X9_told
      rw [if_pos h20, if_neg h10]
      refine c9_isBlock0 h ?_
      rw [if_pos rfl]
      exact q
    · rw [e]
      refine c8_isBlock hb ?_
      rw [if_neg (by decide), nI_clamp (by omega), (hB b hb).1]
      refine ⟨vpT (by omega) (by omega), hQ _ _ (OPK.same hR0 fun Q q => ?_)⟩
      unfold w_X9_told
      rw [if_pos h20, if_neg h10, e]
      refine c9_isBlock hb ?_
      rw [if_neg (by decide), nI_clamp (by omega), h31 b hb]
      exact ⟨vpT (by omega) (by omega), q⟩
  · have g20 : 20 ≤ a1.toInt := by
      rw [i32_lt] at h20
      omega
    have h : (6 : Int32) ≤ a1 - 10 := by
      rw [i32_le, s10]
      omega
    refine c8_isBlock0 (Or.inr h) ?_
    rw [if_pos rfl, if_neg h20]
    rcases x6 (a1 - 20) with h | ⟨b, hb, e⟩
    · refine c8_isBlock0 h ?_
      rw [if_pos rfl]
      refine hQ _ _ (OPK.same hR0 fun Q q => ?_)
      unfold w_X9_told
      rw [if_neg h20]
      intro x ex
      rw [ex]
      refine c9_isBlock0 h ?_
      rw [if_pos rfl]
      exact q
    · rw [e]
      refine c8_isBlock hb ?_
      rw [if_neg (by decide), nI_clamp (by omega)]
      refine ⟨vpT (by omega) (by omega), c8_countUnlike hb (hB b hb) (fun r c hr hc => ((hS b hb).2.2.1 r c hr hc).1) (fun M1 l1 => hQ _ _ ⟨l1 _ (by simp), fun Q q => ?_⟩)⟩
      unfold w_X9_told
      rw [if_neg h20]
      intro x ex
      rw [ex, e]
      refine c9_isBlock hb ?_
      rw [if_neg (by decide)]
      refine c9_told_26 hb (hm8 b hb) (l1 _ (by simp)) (by rw [l1 _ (by simp)]; exact h31 b hb) ?_
      exact q M1 rfl (hR0.look l1)
