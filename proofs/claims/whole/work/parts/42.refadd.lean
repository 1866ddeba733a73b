/-! add, drop and anew of the reference -/
theorem mr_comm (M : Mem) {i j : ix} (r r2 : Nat → Int32) (h : i ≠ j) : mr (mr M i r) j r2 = mr (mr M j r2) i r := by
  refine mem_ext (fun q k => ?_) (fun _ => rfl)
  by_cases e1 : q = i
  · subst e1
    rw [mr_ne _ _ h, mr_at, mr_at]
  · by_cases e2 : q = j
    · subst e2
      rw [mr_at, mr_ne _ _ e1, mr_at]
    · rw [mr_ne _ _ e2, mr_ne _ _ e1, mr_ne _ _ e1, mr_ne _ _ e2]
theorem mu_in (M : Mem) {i j : ix} (r r2 : Nat → Int32) (k : Nat) (v : Int32) (h : i ≠ j) : mu (mr (mr M i r) j r2) i k v = mr (mr M i (upd r k v)) j r2 := by
  rw [mu_of0, mr_ne _ _ h, mr_at, mr_comm _ _ _ h.symm, mr_mr]
theorem okF_same {f g : Nat → Int32} {k : Nat} (h : okF f k) (e : g (12 * k + 3) = f (12 * k + 3)) : okF g k := by
  unfold okF
  rw [e]
  exact h
theorem okF_ad {a kn : Nat → Int32} {b : Nat} (h : ∀ c, c < 4 → okF kn (4 * b + c)) : ∀ c, c ≤ 4 → ∀ c', c' < 4 → okF (adF a kn b c) (4 * b + c')
  | 0, _, c', hc' => h c' hc'
  | c + 1, hc, c', hc' => by
    have ih := okF_ad (a := a) h c (by omega)
    show okF (comeF _ _ _) _
    by_cases e : c' = c
    · subst e; exact okF_come _ (ih c' hc')
    · exact okF_same (ih c' hc') (comeF_out (ih c (by omega)) (by omega))
theorem adF_out {a kn : Nat → Int32} {b : Nat} (h : ∀ c, c < 4 → okF kn (4 * b + c)) {j : Nat} (hj : j < 48 * b ∨ 48 * b + 48 ≤ j) : ∀ c, c ≤ 4 → adF a kn b c j = kn j
  | 0, _ => rfl
  | c + 1, hc => by
    show comeF _ _ _ j = _
    rw [comeF_out (okF_ad h c (by omega) c (by omega)) (by omega), adF_out h hj c (by omega)]
theorem rwA_succ (rr : Nat → Int32) (b n : Nat) (a : Nat → Int32) (c : Nat) : upd (rwA rr b n a c) (32 * b + 4 * n + c) (a c) = rwA rr b n a (c + 1) := by
  funext j
  unfold upd rwA
  by_cases e : j = 32 * b + 4 * n + c
  · subst e
    rw [if_pos rfl, if_pos (by omega)]
    congr 1
    omega
  · rw [if_neg e]
    by_cases h : 32 * b + 4 * n ≤ j ∧ j < 32 * b + 4 * n + c
    · rw [if_pos h, if_pos (by omega)]
    · rw [if_neg h, if_neg (by omega)]
theorem rwA_0 (rr : Nat → Int32) (b n : Nat) (a : Nat → Int32) : rwA rr b n a 0 = rr := by
  funext j
  unfold rwA
  rw [if_neg (by omega)]
theorem c9_add_83 {b n : Nat} (hb : b < 6) (hn : n < 8) {a : Nat → Int32} {Q : Int32 → Mem → Prop} {M : Mem} (h31 : M.1 (31, 0, 0, 0) b = nI n) (hok : ∀ c, c < 4 → okF (M.1 (32, 0, 0, 0)) (4 * b + c)) (hQ : Q (nI (n + 1)) (mu (mr (mr M (30, 0, 0, 0) (rwA (M.1 (30, 0, 0, 0)) b n a 4)) (32, 0, 0, 0) (adF a (M.1 (32, 0, 0, 0)) b 4)) (31, 0, 0, 0) b (nI (n + 1)))) : ∀ m c, c + m = 4 → w_X9_add_83 (nI b) (a 0) (a 1) (a 2) (a 3) Q (m + 1) (nI c) (mr (mr M (30, 0, 0, 0) (rwA (M.1 (30, 0, 0, 0)) b n a c)) (32, 0, 0, 0) (adF a (M.1 (32, 0, 0, 0)) b c)) := by
  intro m
  induction m with
  | zero =>
    intro c hi
    have : c = 4 := by omega
    subst this
    rw [w_X9_add_83, if_pos (by decide)]
    refine ⟨vpT (by omega) (by omega), vpT (by omega) (by omega), vpT (by omega) (by omega), ?_⟩
    rw [nI_clamp (by omega), mr_ne _ _ (by simp), mr_ne _ _ (by simp), h31, nI_1, mu_row, upd_at]
    exact hQ
  | succ m ih =>
    intro c hi
    rw [w_X9_add_83, if_neg (by rw [nI_lel (by omega) (by omega)]; omega), nI_clamp (n := b) (by omega), mr_ne _ _ (by simp), mr_ne _ _ (by simp), h31]
    have ei : (32 : Int32) * nI b + (4 : Int32) * nI n + nI c = nI (32 * b + 4 * n + c) := by rw [nI_ml, nI_ml, nI_add, nI_add]
    have ek : (4 : Int32) * nI b + nI c = nI (4 * b + c) := by rw [nI_ml, nI_add]
    rw [ei, ek, nI_clamp (by omega)]
    have key : ∀ v, v = a c → (vp_in (nI b) 6 ∧ vp_in (nI (32 * b + 4 * n + c)) 192 ∧ w_X9_come (nI (4 * b + c)) v (fun M155 => w_X9_add_83 (nI b) (a 0) (a 1) (a 2) (a 3) Q (m + 1) (nI c + 1) M155) (mu (mr (mr M (30, 0, 0, 0) (rwA (M.1 (30, 0, 0, 0)) b n a c)) (32, 0, 0, 0) (adF a (M.1 (32, 0, 0, 0)) b c)) (30, 0, 0, 0) (32 * b + 4 * n + c) v)) := by
      intro v e
      subst e
      refine ⟨vpT (by omega) (by omega), vpT (by omega) (by omega), ?_⟩
      rw [mu_in _ _ _ _ _ (by simp), rwA_succ]
      refine c9_come (by omega) (by rw [mr_at]; exact okF_ad hok c (by omega) c (by omega)) ?_
      rw [mr_at, mr_mr, nI_1]
      exact ih (c + 1) (by omega)
    have hc : c = 0 ∨ c = 1 ∨ c = 2 ∨ c = 3 := by omega
    rcases hc with e | e | e | e <;> subst e
    · rw [if_pos nI_0]; exact key _ rfl
    · rw [if_neg (by decide), if_pos (show nI 1 = 1 from rfl)]; exact key _ rfl
    · rw [if_neg (by decide), if_neg (by decide), if_pos (show nI 2 = 2 from rfl)]; exact key _ rfl
    · rw [if_neg (by decide), if_neg (by decide), if_neg (by decide)]; exact key _ rfl
/-! drop -/
theorem okF_leave {f : Nat → Int32} {k : Nat} (v : Int32) (h : okF f k) : okF (leaveF f k v) k := by
  refine okF_same h ?_
  unfold leaveF
  split
  · rw [upd_ne _ _ (by omega)]
  · split
    · rfl
    · split
      · rw [upd_ne _ _ (by omega)]
      · rfl
theorem okF_ld {rr kn : Nat → Int32} {b r : Nat} (h : ∀ c, c < 4 → okF kn (4 * b + c)) : ∀ c, c ≤ 4 → ∀ c', c' < 4 → okF (ldF rr kn b r c) (4 * b + c')
  | 0, _, c', hc' => h c' hc'
  | c + 1, hc, c', hc' => by
    have ih := okF_ld (rr := rr) (r := r) h c (by omega)
    show okF (leaveF _ _ _) _
    by_cases e : c' = c
    · subst e; exact okF_leave _ (ih c' hc')
    · exact okF_same (ih c' hc') (leaveF_out (ih c (by omega)) (by omega))
theorem ldF_out {rr kn : Nat → Int32} {b r : Nat} (h : ∀ c, c < 4 → okF kn (4 * b + c)) {j : Nat} (hj : j < 48 * b ∨ 48 * b + 48 ≤ j) : ∀ c, c ≤ 4 → ldF rr kn b r c j = kn j
  | 0, _ => rfl
  | c + 1, hc => by
    show leaveF _ _ _ j = _
    rw [leaveF_out (okF_ld h c (by omega) c (by omega)) (by omega), ldF_out h hj c (by omega)]
theorem ldF_hi {rr kn : Nat → Int32} {b r : Nat} (h : ∀ c, c < 4 → okF kn (4 * b + c)) : ∀ c, c ≤ 4 → ∀ j, 48 * b + 12 * c ≤ j → ldF rr kn b r c j = kn j
  | 0, _, _, _ => rfl
  | c + 1, hc, j, hj => by
    show leaveF _ _ _ j = _
    rw [leaveF_out (okF_ld h c (by omega) c (by omega)) (by omega), ldF_hi h c (by omega) j (by omega)]
/-- every number of the row is in the list, unless that is lost -/
def inF (rr kn : Nat → Int32) (b c r : Nat) : Prop := rr (32 * b + 4 * r + c) ≠ 1000 → ∀ m, m ≤ 4 → kn (12 * (4 * b + c) + 3) = nI m → ∃ i, i < m ∧ kn (12 * (4 * b + c) + 4 + i) = rr (32 * b + 4 * r + c)
theorem c9_drop_127 {b n r : Nat} (hb : b < 6) (hn : n ≤ 8) (hr : r < n) {a2 : Int32} {Q : Int32 → Mem → Prop} {M : Mem} {rr : Nat → Int32} (h31 : M.1 (31, 0, 0, 0) b = nI (n - 1)) (hQ : Q (nI (n - 1)) (mr M (30, 0, 0, 0) (rwD rr b r n))) : ∀ m i, i + m = 4 * (n - 1) → 4 * r ≤ i → w_X9_drop_127 (nI b) a2 Q (m + 1) (nI (32 * b + i)) (mr M (30, 0, 0, 0) (fun j => if 32 * b + 4 * r ≤ j ∧ j < 32 * b + i then rr (j + 4) else rr j)) := by
  intro m
  induction m with
  | zero =>
    intro i hi hri
    have : i = 4 * (n - 1) := by omega
    subst this
    rw [w_X9_drop_127]
    refine ⟨vpT (by omega) (by omega), ?_⟩
    rw [nI_clamp (by omega), mr_ne _ _ (by simp), h31, nI_ml, nI_ml, nI_add, if_pos (by rw [nI_leI (by omega) (by omega)]; omega)]
    exact ⟨vpT (by omega) (by omega), hQ⟩
  | succ m ih =>
    intro i hi hri
    rw [w_X9_drop_127]
    refine ⟨vpT (by omega) (by omega), ?_⟩
    rw [nI_clamp (n := b) (by omega), mr_ne _ _ (by simp), h31, nI_ml, nI_ml, nI_add, if_neg (by rw [nI_leI (by omega) (by omega)]; omega), nI_al]
    refine ⟨vpT (by omega) (by omega), vpT (by omega) (by omega), ?_⟩
    rw [nI_clamp (by omega), nI_clamp (by omega), mu_mr, mr_at, nI_1]
    have e : upd (fun j => if 32 * b + 4 * r ≤ j ∧ j < 32 * b + i then rr (j + 4) else rr j) (32 * b + i) (if 32 * b + 4 * r ≤ 32 * b + i + 4 ∧ 32 * b + i + 4 < 32 * b + i then rr (32 * b + i + 4 + 4) else rr (32 * b + i + 4)) = (fun j => if 32 * b + 4 * r ≤ j ∧ j < 32 * b + (i + 1) then rr (j + 4) else rr j) := by
      funext j
      unfold upd
      dsimp only
      repeat' split
      all_goals first | rfl | (exfalso; omega) | (subst_vars; rfl)
    rw [e]
    exact ih (i + 1) (by omega) (by omega)
theorem c9_drop_13 {b n r : Nat} (hb : b < 6) (hn : n ≤ 8) (hr : r < n) {Q : Int32 → Mem → Prop} {M : Mem} (h31 : M.1 (31, 0, 0, 0) b = nI n) (hok : ∀ c, c < 4 → okF (M.1 (32, 0, 0, 0)) (4 * b + c)) (hin : ∀ c, c < 4 → inF (M.1 (30, 0, 0, 0)) (M.1 (32, 0, 0, 0)) b c r) (hQ : Q (nI (n - 1)) (mr (mu (mr M (32, 0, 0, 0) (ldF (M.1 (30, 0, 0, 0)) (M.1 (32, 0, 0, 0)) b r 4)) (31, 0, 0, 0) b (nI (n - 1))) (30, 0, 0, 0) (rwD (M.1 (30, 0, 0, 0)) b r n))) : ∀ m c, c + m = 4 → w_X9_drop_13 (nI b) (nI r) Q (m + 1) (nI c) (mr M (32, 0, 0, 0) (ldF (M.1 (30, 0, 0, 0)) (M.1 (32, 0, 0, 0)) b r c)) := by
  intro m
  induction m with
  | zero =>
    intro c hi
    have : c = 4 := by omega
    subst this
    rw [w_X9_drop_13, if_pos (by decide)]
    refine ⟨vpT (by omega) (by omega), vpT (by omega) (by omega), fun x e => ?_⟩
    rw [nI_ml, nI_ml, nI_add] at e
    subst e
    rw [nI_clamp (by omega), mr_ne _ _ (by simp), h31, show nI n - 1 = nI (n - 1) from nI_sl (by omega)]
    refine ⟨4 * (n - 1) - 4 * r + 1, ?_⟩
    have h0 := c9_drop_127 hb hn hr (a2 := nI r) (Q := Q) (M := mu (mr M (32, 0, 0, 0) (ldF (M.1 (30, 0, 0, 0)) (M.1 (32, 0, 0, 0)) b r 4)) (31, 0, 0, 0) b (nI (n - 1))) (rr := M.1 (30, 0, 0, 0)) (by rw [mu_row, upd_at]) hQ (4 * (n - 1) - 4 * r) (4 * r) (by omega) (Nat.le_refl _)
    have e : (fun j => if 32 * b + 4 * r ≤ j ∧ j < 32 * b + 4 * r then M.1 (30, 0, 0, 0) (j + 4) else M.1 (30, 0, 0, 0) j) = (mu (mr M (32, 0, 0, 0) (ldF (M.1 (30, 0, 0, 0)) (M.1 (32, 0, 0, 0)) b r 4)) (31, 0, 0, 0) b (nI (n - 1))).1 (30, 0, 0, 0) := by
      rw [mu_ne _ _ _ (by simp), mr_ne _ _ (by simp)]
      funext j
      rw [if_neg (by omega)]
    rw [e, mr_self] at h0
    exact h0
  | succ m ih =>
    intro c hi
    rw [w_X9_drop_13, if_neg (by rw [nI_lel (by omega) (by omega)]; omega)]
    intro k ek
    rw [nI_ml, nI_add] at ek
    subst ek
    refine c9_at hb (by omega) (by omega) ?_
    rw [mr_ne _ _ (by simp)]
    have ih := ih (c + 1) (by omega)
    rw [nI_1]
    rw [show ldF (M.1 (30, 0, 0, 0)) (M.1 (32, 0, 0, 0)) b r (c + 1) = leaveF (ldF (M.1 (30, 0, 0, 0)) (M.1 (32, 0, 0, 0)) b r c) (4 * b + c) (M.1 (30, 0, 0, 0) (32 * b + 4 * r + c)) from rfl] at ih
    have hokc := okF_ld (rr := M.1 (30, 0, 0, 0)) (r := r) hok c (by omega) c (by omega)
    have hinc := hin c (by omega)
    have hhi := ldF_hi (rr := M.1 (30, 0, 0, 0)) (r := r) hok c (by omega)
    unfold inF at hinc
    rw [← hhi _ (by omega : 48 * b + 12 * c ≤ 12 * (4 * b + c) + 3)] at hinc
    have hinc2 : M.1 (30, 0, 0, 0) (32 * b + 4 * r + c) ≠ 1000 → ∀ m, m ≤ 4 → ldF (M.1 (30, 0, 0, 0)) (M.1 (32, 0, 0, 0)) b r c (12 * (4 * b + c) + 3) = nI m → ∃ i, i < m ∧ ldF (M.1 (30, 0, 0, 0)) (M.1 (32, 0, 0, 0)) b r c (12 * (4 * b + c) + 4 + i) = M.1 (30, 0, 0, 0) (32 * b + 4 * r + c) := fun hv m hm h3 => by
      obtain ⟨i, hi, e⟩ := hinc hv m hm h3
      exact ⟨i, hi, by rw [hhi _ (by omega)]; exact e⟩
    clear hinc hhi
    obtain ⟨f, hf⟩ : ∃ f, f = ldF (M.1 (30, 0, 0, 0)) (M.1 (32, 0, 0, 0)) b r c := ⟨_, rfl⟩
    obtain ⟨v, hv⟩ : ∃ v, v = M.1 (30, 0, 0, 0) (32 * b + 4 * r + c) := ⟨_, rfl⟩
    obtain ⟨k, hk⟩ : ∃ k, k = 4 * b + c := ⟨_, rfl⟩
    rw [← hf, ← hv, ← hk] at ih hinc2 ⊢
    rw [← hf, ← hk] at hokc
    rw [show (12 : Int32) * nI k = nI (12 * k) from nI_ml _ _, show nI (12 * k) + 2 = nI (12 * k + 2) from nI_al _ _, show nI (12 * k) + 3 = nI (12 * k + 3) from nI_al _ _, show nI (12 * k) + 8 = nI (12 * k + 8) from nI_al _ _]
    unfold leaveF at ih
    by_cases h1 : v = 1000
    · rw [if_pos h1] at ih ⊢
      refine ⟨vpT (by omega) (by omega), vpT (by omega) (by omega), fun M57 e => ?_⟩
      rw [e, nI_clamp (by omega), mu_mr, mr_at]
      exact ih
    · rw [if_neg h1] at ih ⊢
      refine ⟨vpT (by omega) (by omega), ?_⟩
      rw [nI_clamp (by omega), mr_at]
      rcases hokc with h3 | ⟨q, hq, h3⟩
      · rw [h3, if_pos m1_lt] at ih ⊢
        exact ih
      · obtain ⟨i, hi, ei⟩ := hinc2 h1 q hq h3
        have hp : pl (fun i => f (12 * k + 4 + i)) v q < q := by
          rcases Nat.lt_or_ge (pl (fun i => f (12 * k + 4 + i)) v q) q with z | z
          · exact z
          · exact absurd ei (pl_lt (fun i => f (12 * k + 4 + i)) v q i (by omega))
        rw [h3, if_neg (nI_nn (by omega)), nI_clamp (by omega), if_pos hp] at ih
        rw [h3, if_neg (nI_nn (by omega))]
        refine c9_placeOf (by omega) hq (by rw [mr_at]; exact h3) ?_
        unfold plr
        simp only [mr_at]
        rw [if_pos hp, nI_add]
        refine ⟨vpT (by omega) (by omega), vpT (by omega) (by omega), fun M101 e => ?_⟩
        rw [e, nI_clamp (by omega), mu_mr]
        exact ih
