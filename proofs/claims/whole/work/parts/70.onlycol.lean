/-! the only column of a question -/
def OC (g : Nat → Int32) (n : Nat) (v : Int32) : Prop := (v = -2000000 ∧ ((∀ k, k < n → ¬ isL (g k)) ∨ ∃ j k, j < n ∧ k < n ∧ isL (g j) ∧ isL (g k) ∧ g j ≠ g k)) ∨ ∃ c, c < 4 ∧ v = nI c ∧ (∃ k, k < n ∧ isL (g k)) ∧ ∀ k, k < n → isL (g k) → g k = nI (97 + c)
theorem OC.eq {g : Nat → Int32} {n : Nat} {v v2 : Int32} (h : OC g n v) (h2 : OC g n v2) : v = v2 := by
  have cross : ∀ {v v2 : Int32}, (v = -2000000 ∧ ((∀ k, k < n → ¬ isL (g k)) ∨ ∃ j k, j < n ∧ k < n ∧ isL (g j) ∧ isL (g k) ∧ g j ≠ g k)) → (∃ c, c < 4 ∧ v2 = nI c ∧ (∃ k, k < n ∧ isL (g k)) ∧ ∀ k, k < n → isL (g k) → g k = nI (97 + c)) → False := by
    rintro v v2 ⟨-, h⟩ ⟨c, hc, -, ⟨k, hk, hl⟩, h3⟩
    rcases h with h | ⟨j, k2, a1, a2, a3, a4, a5⟩
    · exact h k hk hl
    · exact a5 (by rw [h3 j a1 a3, h3 k2 a2 a4])
  rcases h with h | h <;> rcases h2 with h2 | h2
  · rw [h.1, h2.1]
  · exact (cross h h2).elim
  · exact (cross h2 h).elim
  · obtain ⟨c, hc, e, ⟨k, hk, hl⟩, h3⟩ := h
    obtain ⟨c2, hc2, e2, -, h4⟩ := h2
    have := h3 k hk hl
    rw [h4 k hk hl, nI_eq (by omega) (by omega)] at this
    rw [e, e2, show c = c2 by omega]
theorem OC.ex {g : Nat → Int32} {n : Nat} (hsg : ∀ i, i < n → ∃ m, 33 ≤ m ∧ m < 127 ∧ g i = nI m) : ∃ v, OC g n v := by
  by_cases a : ∃ k, k < n ∧ isL (g k)
  · obtain ⟨k, hk, hl⟩ := a
    obtain ⟨j, j1, j2, j3, -⟩ := isL_ix (hsg k hk) hl
    by_cases b : ∀ i, i < n → isL (g i) → g i = nI (97 + j)
    · exact ⟨nI j, Or.inr ⟨j, j1, rfl, ⟨k, hk, hl⟩, b⟩⟩
    · refine ⟨_, Or.inl ⟨rfl, Or.inr ?_⟩⟩
      refine Classical.byContradiction fun q => b (fun i hi hli => Classical.byContradiction fun q2 => q ⟨k, i, hk, hi, hl, hli, fun e => q2 (by rw [← e]; exact j3)⟩)
  · exact ⟨_, Or.inl ⟨rfl, Or.inl (fun k hk hl => a ⟨k, hk, hl⟩)⟩⟩
/-- a loop over places: what it has found -/
def OS (g : Nat → Int32) (P : Nat → Prop) (x : Int32) : Prop := (x = -2000000 ∧ ∀ k, ¬ P k) ∨ ∃ c, c < 4 ∧ x = nI c ∧ (∃ k, P k) ∧ ∀ k, P k → g k = nI (97 + c)
theorem OS.oc {g : Nat → Int32} {n : Nat} {P : Nat → Prop} {x : Int32} (h : OS g P x) (h1 : ∀ k, P k → k < n ∧ isL (g k)) (h2 : ∀ k, k < n → isL (g k) → P k) : OC g n x := by
  rcases h with ⟨e, h⟩ | ⟨c, hc, e, ⟨k, hk⟩, h⟩
  · exact Or.inl ⟨e, Or.inl (fun k hk hl => h k (h2 k hk hl))⟩
  · exact Or.inr ⟨c, hc, e, ⟨k, h1 k hk⟩, fun k hk hl => h k (h2 k hk hl)⟩
theorem OS.add {g : Nat → Int32} {P P2 : Nat → Prop} {x : Int32} (h : OS g P x) {k j : Nat} (hj : j < 4) (hk : g k = nI (97 + j)) (h2 : ∀ i, P2 i ↔ P i ∨ i = k) (hx : x = -2000000 ∨ x = nI j) : OS g P2 (nI j) := by
  refine Or.inr ⟨j, hj, rfl, ⟨k, (h2 k).mpr (Or.inr rfl)⟩, fun i hi => ?_⟩
  rcases (h2 i).mp hi with q | q
  · rcases h with ⟨e, h⟩ | ⟨c, hc, e, ⟨k2, hk2⟩, h⟩
    · exact absurd q (h i)
    · rcases hx with hx | hx
      · rw [e] at hx
        exact absurd hx (nI_neN (by omega))
      · rw [e, nI_eq (by omega) (by omega)] at hx
        rw [h i q, hx]
  · rw [q]; exact hk
theorem OS.bad {g : Nat → Int32} {n : Nat} {P : Nat → Prop} {x : Int32} (h : OS g P x) (h1 : ∀ k, P k → k < n ∧ isL (g k)) {k j : Nat} (hj : j < 4) (hkn : k < n) (hl : isL (g k)) (hk : g k = nI (97 + j)) (hx : ¬ x = -2000000) (hx2 : ¬ x = nI j) : OC g n (-2000000) := by
  rcases h with ⟨e, h⟩ | ⟨c, hc, e, ⟨k2, hk2⟩, h⟩
  · exact absurd e hx
  · refine Or.inl ⟨rfl, Or.inr ⟨k2, k, (h1 k2 hk2).1, hkn, (h1 k2 hk2).2, hl, fun q => hx2 ?_⟩⟩
    rw [h k2 hk2, hk, nI_eq (by omega) (by omega)] at q
    rw [e, show c = j by omega]
theorem c1_onlyColumn_5 {M : Mem} {g : Nat → Int32} {n : Nat} {E : Nat → Nat} (hC : CQ M g n E) {v : Int32} (hv : OC g n v) {Q : Int32 → Mem → Prop} (hQ : Q v M) : ∀ m i x, i + m = n → OS g (fun k => k < i ∧ isL (g k)) x → w_X1_onlyColumn_5 Q (m + 1) x (nI i) M := by
  obtain ⟨hn60, -, h11, h12, hn, hs, hsg, h13, h14⟩ := hC
  intro m
  induction m with
  | zero =>
    intro i x hi hx
    have : i = n := by omega
    subst this
    rw [w_X1_onlyColumn_5, h11, if_pos (by rw [nI_leI (by omega) (by omega)]; omega)]
    rw [(hx.oc (fun k h => h) (fun k h1 h2 => ⟨h1, h2⟩)).eq hv]
    exact hQ
  | succ m ih =>
    intro i x hi hx
    rw [w_X1_onlyColumn_5, h11, if_neg (by rw [nI_leI (by omega) (by omega)]; omega), nI_clamp (n := i) (by omega), h12, nI_1]
    refine ⟨vpT (by omega) (by omega), c8_isLetter (fun hl => ?_) (fun hl => ?_)⟩
    · rw [if_neg (by decide)]
      obtain ⟨j, j1, j2, j3, -⟩ := isL_ix (hsg i (by omega)) hl
      have h12' : M.1 (12, 0, 0, 0) = g := h12
      rw [h12', j2]
      have hP2 : ∀ k, (k < i + 1 ∧ isL (g k)) ↔ (k < i ∧ isL (g k)) ∨ k = i := fun k => by
        constructor
        · rintro ⟨a, b⟩
          rcases Nat.lt_or_ge k i with q | q
          · exact Or.inl ⟨q, b⟩
          · exact Or.inr (by omega)
        · rintro (⟨a, b⟩ | e)
          · exact ⟨by omega, b⟩
          · subst e; exact ⟨by omega, hl⟩
      by_cases x1 : x = -2000000
      · rw [if_pos x1]
        exact ⟨vpT (by omega) (by omega), fun y ey => by rw [ey]; exact ih (i + 1) _ (by omega) (hx.add j1 j3 hP2 (Or.inl x1))⟩
      rw [if_neg x1]
      refine ⟨vpT (by omega) (by omega), ?_⟩
      by_cases x2 : x = nI j
      · rw [if_pos x2]
        exact ⟨vpT (by omega) (by omega), fun y ey => by rw [ey]; exact ih (i + 1) _ (by omega) (hx.add j1 j3 hP2 (Or.inr x2))⟩
      · rw [if_neg x2]
        rw [← (hx.bad (n := n) (fun k h => ⟨by omega, h.2⟩) j1 (by omega) hl j3 x1 x2).eq hv] at hQ
        exact hQ
    · rw [if_pos rfl]
      refine ih (i + 1) x (by omega) ?_
      have e : (fun k => k < i + 1 ∧ isL (g k)) = (fun k => k < i ∧ isL (g k)) := by
        funext k
        refine propext ⟨fun h => ⟨?_, h.2⟩, fun h => ⟨by omega, h.2⟩⟩
        rcases Nat.lt_or_ge k i with q | q
        · exact q
        · have : k = i := by omega
          subst this
          exact absurd h.2 hl
      rw [e]
      exact hx
theorem c1_onlyColumn {M : Mem} {g : Nat → Int32} {n : Nat} {E : Nat → Nat} (hC : CQ M g n E) {v : Int32} (hv : OC g n v) {Q : Int32 → Mem → Prop} (hQ : Q v M) : w_X1_onlyColumn Q M := by
  have h := c1_onlyColumn_5 hC hv hQ n 0 (-2000000) (by omega) (Or.inl ⟨rfl, fun k h => by omega⟩)
  exact ⟨n + 1, h⟩
theorem psh_t3 {c a : Nat} {l : List Nat} (h : psh c = a :: l) : 3 ∉ l ∧ (a = 3 → c = 15) := by
  unfold psh at h
  repeat' split at h
  all_goals first | (cases h; done) | (cases h; refine ⟨by simp, fun q => ?_⟩; first | omega | (exact absurd q (by decide)))
theorem no3 {g : Nat → Int32} : ∀ k r T, stk g k = some (r :: T) → 3 ∉ T
  | 0, r, T, h => by cases h; simp
  | k + 1, r, T, h => by
    obtain ⟨r', T', h1, h2, h3⟩ := stk_some h
    have ih := no3 k r' T' h1
    cases hp : psh (knd r' (g k)) with
    | nil =>
      rw [hp] at h3
      have h3 : r :: T = T' := h3
      rw [← h3] at ih
      exact fun q => ih (List.mem_cons_of_mem _ q)
    | cons a l =>
      rw [hp] at h3
      cases h3
      intro q
      rcases List.mem_append.mp q with q | q
      · exact (psh_t3 hp).1 q
      · exact ih q
theorem let_pos {g : Nat → Int32} {n k : Nat} (hn : stk g n = some []) (hk : k < n) (hl : isL (g k)) : kd g k = 1 ∨ ∃ j, k = j + 1 ∧ kd g j = 15 := by
  obtain ⟨r, T, e, hz, -⟩ := stk_up hn hk
  have hr := stk_mem k _ e r (by simp)
  have h : r = 1 ∨ r = 2 ∨ r = 3 ∨ r = 4 ∨ r = 5 := by omega
  rcases h with h | h | h | h | h <;> subst h
  · exfalso
    have hz : trK (g k) ≠ 0 := hz
    have h1 := trK_s rfl hz
    have h2 := trK_r (g k)
    rw [h1] at hl
    have : trK (g k) = 10 ∨ trK (g k) = 11 ∨ trK (g k) = 12 ∨ trK (g k) = 13 ∨ trK (g k) = 14 ∨ trK (g k) = 15 := by omega
    rcases this with h | h | h | h | h | h <;> rw [h] at hl <;> exact absurd hl (by decide)
  · left
    rw [kd_2 e]
    unfold tmK
    rw [if_pos hl]
  · right
    cases k with
    | zero => cases e
    | succ j =>
      refine ⟨j, rfl, ?_⟩
      obtain ⟨r', T', h1, h2, h3⟩ := stk_some e
      have n3 := no3 j r' T' h1
      have h15 : knd r' (g j) = 15 := by
        cases hp : psh (knd r' (g j)) with
        | nil =>
          rw [hp] at h3
          have h3 : 3 :: T = T' := h3
          rw [← h3] at n3
          exact absurd List.mem_cons_self n3
        | cons a l =>
          rw [hp] at h3
          cases h3
          exact (psh_t3 hp).2 rfl
      have hr' := stk_mem j _ h1 r' (by simp)
      have : r' = 1 := by
        have h : r' = 1 ∨ r' = 2 ∨ r' = 3 ∨ r' = 4 ∨ r' = 5 := by omega
        rcases h with h | h | h | h | h <;> subst h
        · rfl
        · have := tmK_r (g j)
          have h15 : tmK (g j) = 15 := h15
          omega
        · have h15 : (if isL (g j) then 16 else 0) = 15 := h15
          split at h15 <;> omega
        · have h15 : (if isD (g j) then 17 else 0) = 15 := h15
          split at h15 <;> omega
        · rw [knd5] at h15
          split at h15 <;> omega
      subst this
      rw [kd_1 h1]
      exact h15
  · exfalso
    refine hz ?_
    show (if isD (g k) then 17 else 0) = 0
    refine if_neg (fun h => ?_)
    have h1 := h.2
    have h2 := hl.1
    rw [i32_lt] at h1 h2
    rw [show (57 : Int32).toInt = 57 by decide] at h1
    rw [show (97 : Int32).toInt = 97 by decide] at h2
    omega
  · exfalso
    refine hz ?_
    rw [knd5]
    refine if_neg (fun h => ?_)
    have h1 := h.1.2
    have h2 := hl.1
    rw [i32_lt] at h1 h2
    rw [show (57 : Int32).toInt = 57 by decide] at h1
    rw [show (97 : Int32).toInt = 97 by decide] at h2
    omega
theorem kd_1L {g : Nat → Int32} {k : Nat} (h : kd g k = 1) : isL (g k) := by
  rcases kd_s h (by omega) with h | h | h
  · exact h.2
  · omega
  · omega
/-- what the reference has seen of columns -/
def sn (g : Nat → Int32) (i k : Nat) : Prop := (k < i ∧ kd g k = 1) ∨ ∃ j, j < i ∧ kd g j = 15 ∧ k = j + 1
theorem c9_onlyColumn_5 {M : Mem} {g : Nat → Int32} {n : Nat} {E : Nat → Nat} (hC : RC M g n E) {v : Int32} (hv : OC g n v) {Q : Int32 → Mem → Prop} (hQ : Q v M) : ∀ m i x, i + m = n → OS g (sn g i) x → w_X9_onlyColumn_5 Q (m + 1) x (nI i) M := by
  have hCC := hC
  obtain ⟨hn60, -, h29, h34, hn, hs, hsg, hrr⟩ := hC
  have snl : ∀ i, i ≤ n → ∀ k, sn g i k → k < n ∧ isL (g k) := by
    intro i hi k hk
    rcases hk with ⟨a, b⟩ | ⟨j, a, b, e⟩
    · exact ⟨by omega, kd_1L b⟩
    · have := (sh hn hs (by omega : j < n) b (by omega)).2.2.2.2.2 rfl
      rw [e]
      exact this
  intro m
  induction m with
  | zero =>
    intro i x hi hx
    have : i = n := by omega
    subst this
    rw [w_X9_onlyColumn_5, h29, if_pos (by rw [nI_leI (by omega) (by omega)]; omega)]
    rw [(hx.oc (snl i (Nat.le_refl i)) (fun k h1 h2 => ?_)).eq hv]
    · exact hQ
    · rcases let_pos hn h1 h2 with q | ⟨j, e, q⟩
      · exact Or.inl ⟨h1, q⟩
      · exact Or.inr ⟨j, by omega, q, e⟩
  | succ m ih =>
    intro i x hi hx
    rw [w_X9_onlyColumn_5, h29, if_neg (by rw [nI_leI (by omega) (by omega)]; omega), nI_clamp (n := i) (by omega), h34, nI_1]
    refine ⟨vpT (by omega) (by omega), ?_⟩
    have found : ∀ k j : Nat, j < 4 → k < n → isL (g k) → g k = nI (97 + j) → (∀ q, sn g (i + 1) q ↔ sn g i q ∨ q = k) → ∀ y, y = nI j → (if y = (-2000000 : Int32) then ((w_X9_onlyColumn_5 Q (m + 1)) x (nI (i + 1)) M) else (if x = (-2000000 : Int32) then ((w_X9_onlyColumn_5 Q (m + 1)) y (nI (i + 1)) M) else (if x = y then ((w_X9_onlyColumn_5 Q (m + 1)) y (nI (i + 1)) M) else (Q (-2000000 : Int32) M)))) := by
      intro k j hj hk hl hg hP y ey
      rw [ey, if_neg (nI_neN (by omega))]
      by_cases x1 : x = -2000000
      · rw [if_pos x1]
        exact ih (i + 1) _ (by omega) (hx.add hj hg hP (Or.inl x1))
      rw [if_neg x1]
      by_cases x2 : x = nI j
      · rw [if_pos x2]
        exact ih (i + 1) _ (by omega) (hx.add hj hg hP (Or.inr x2))
      · rw [if_neg x2]
        rw [← (hx.bad (snl i (by omega)) hj hk hl hg x1 x2).eq hv] at hQ
        exact hQ
    have k35 : M.1 (35, 0, 0, 0) i = nz (kd g i) := hCC.2.2.2.2.2.2.2.1 i (by omega)
    rw [k35]
    have hle := kd_le g i
    by_cases k1 : kd g i = 1
    · rw [k1, if_pos (show nz 1 = 1 from rfl)]
      have hl := kd_1L k1
      obtain ⟨j, j1, j2, j3, -⟩ := isL_ix (hsg i (by omega)) hl
      rw [j2]
      refine ⟨vpT (by omega) (by omega), fun y ey => found i j j1 (by omega) hl j3 (fun q => ?_) y ey⟩
      constructor
      · rintro (⟨a, b⟩ | ⟨t, a, b, e⟩)
        · rcases Nat.lt_or_ge q i with z | z
          · exact Or.inl (Or.inl ⟨z, b⟩)
          · exact Or.inr (by omega)
        · rcases Nat.lt_or_ge t i with z | z
          · exact Or.inl (Or.inr ⟨t, z, b, e⟩)
          · have : t = i := by omega
            subst this
            omega
      · rintro ((⟨a, b⟩ | ⟨t, a, b, e⟩) | e)
        · exact Or.inl ⟨by omega, b⟩
        · exact Or.inr ⟨t, by omega, b, e⟩
        · subst e; exact Or.inl ⟨by omega, k1⟩
    have n1 : ¬ nz (kd g i) = 1 := by
      by_cases z : kd g i = 0
      · rw [z]; decide
      · rw [nz_p z]; exact nIne (by omega) (by decide) k1
    rw [if_neg n1]
    refine ⟨vpT (by omega) (by omega), ?_⟩
    by_cases k15 : kd g i = 15
    · rw [k15, if_pos (show nz 15 = 15 from rfl)]
      obtain ⟨a1, a2⟩ := (sh hn hs (by omega : i < n) k15 (by omega)).2.2.2.2.2 rfl
      obtain ⟨j, j1, j2, j3, -⟩ := isL_ix (hsg (i + 1) a1) a2
      rw [nI_clamp (n := i + 1) (by omega), j2]
      refine ⟨vpT (by omega) (by omega), fun y ey => found (i + 1) j j1 a1 a2 j3 (fun q => ?_) y ey⟩
      constructor
      · rintro (⟨a, b⟩ | ⟨t, a, b, e⟩)
        · rcases Nat.lt_or_ge q i with z | z
          · exact Or.inl (Or.inl ⟨z, b⟩)
          · have : q = i := by omega
            subst this
            omega
        · rcases Nat.lt_or_ge t i with z | z
          · exact Or.inl (Or.inr ⟨t, z, b, e⟩)
          · exact Or.inr (by omega)
      · rintro ((⟨a, b⟩ | ⟨t, a, b, e⟩) | e)
        · exact Or.inl ⟨by omega, b⟩
        · exact Or.inr ⟨t, by omega, b, e⟩
        · exact Or.inr ⟨i, by omega, k15, e⟩
    have n15 : ¬ nz (kd g i) = 15 := by
      by_cases z : kd g i = 0
      · rw [z]; decide
      · rw [nz_p z]; exact nIne (by omega) (by decide) k15
    rw [if_neg n15, if_pos rfl]
    refine ih (i + 1) x (by omega) ?_
    have e : sn g (i + 1) = sn g i := by
      funext q
      refine propext ⟨?_, ?_⟩
      · rintro (⟨a, b⟩ | ⟨t, a, b, e⟩)
        · rcases Nat.lt_or_ge q i with z | z
          · exact Or.inl ⟨z, b⟩
          · have : q = i := by omega
            subst this
            exact absurd b k1
        · rcases Nat.lt_or_ge t i with z | z
          · exact Or.inr ⟨t, z, b, e⟩
          · have : t = i := by omega
            subst this
            exact absurd b k15
      · rintro (⟨a, b⟩ | ⟨t, a, b, e⟩)
        · exact Or.inl ⟨by omega, b⟩
        · exact Or.inr ⟨t, by omega, b, e⟩
    rw [e]
    exact hx
theorem c9_onlyColumn {M : Mem} {g : Nat → Int32} {n : Nat} {E : Nat → Nat} (hC : RC M g n E) {v : Int32} (hv : OC g n v) {Q : Int32 → Mem → Prop} (hQ : Q v M) : w_X9_onlyColumn Q M := by
  have h := c9_onlyColumn_5 hC hv hQ n 0 (-2000000) (by omega) (Or.inl ⟨rfl, fun k h => by
    rcases h with ⟨a, b⟩ | ⟨t, a, b, e⟩ <;> omega⟩)
  exact ⟨n + 1, h⟩
