/-! what holds of the reference's rows, and goes on to hold -/
def onl (M M1 : Mem) (l : List Nat) : Prop := (∀ i : ix, i.1 ∉ l → M1.1 i = M.1 i) ∧ M1.2 = M.2
theorem onl.rf {M : Mem} {l : List Nat} : onl M M l := ⟨fun _ _ => rfl, rfl⟩
theorem onl.tr {M M1 M2 : Mem} {l : List Nat} (h : onl M M1 l) (h2 : onl M1 M2 l) : onl M M2 l := ⟨fun i hi => (h2.1 i hi).trans (h.1 i hi), h2.2.trans h.2⟩
theorem onl.mr {M : Mem} {l : List Nat} {i : ix} (r : Nat → Int32) (h : i.1 ∈ l) : onl M (mr M i r) l := ⟨fun _ hi => mr_ne _ _ (fun e => hi (e ▸ h)), rfl⟩
theorem onl.sub {M M1 : Mem} {l l2 : List Nat} (h : onl M M1 l) (hs : ∀ x, x ∈ l → x ∈ l2) : onl M M1 l2 := ⟨fun i hi => h.1 i (fun q => hi (hs _ q)), h.2⟩
def memF (f : Nat → Int32) (k : Nat) (v : Int32) : Prop := ∀ m, m ≤ 4 → f (12 * k + 3) = nI m → ∃ i, i < m ∧ f (12 * k + 4 + i) = v
theorem memF_same {f g : Nat → Int32} {k : Nat} {v : Int32} (h : memF f k v) (e : ∀ j, 3 ≤ j → j < 8 → g (12 * k + j) = f (12 * k + j)) : memF g k v := by
  intro m hm h3
  rw [e 3 (by omega) (by omega)] at h3
  obtain ⟨i, hi, ei⟩ := h m hm h3
  refine ⟨i, hi, ?_⟩
  rw [Nat.add_assoc, e (4 + i) (by omega) (by omega), ← Nat.add_assoc]
  exact ei
theorem memF_en {g : Nat → Int32} {k : Nat} {v w : Int32} (ho : okF g k) (h : memF g k w ∨ w = v) : memF (enF g k v) k w := by
  rcases ho with h3 | ⟨n, hn, h3⟩
  · rw [enF_m1 h3]
    intro m hm e
    rw [h3] at e
    exact absurd (e ▸ m1_lt) (nI_nn (n := m) (by omega))
  · by_cases hp : pl (fun i => g (12 * k + 4 + i)) v n < n
    · rw [enF_in hn h3 hp]
      have h0 : memF g k w := by
        rcases h with h | h
        · exact h
        · subst h
          intro m hm e
          have : m = n := (nI_eq (by omega) (by omega)).mp (e.symm.trans h3)
          subst this
          exact ⟨_, hp, pl_at (fun i => g (12 * k + 4 + i)) w m hp⟩
      exact memF_same h0 (fun j _ _ => upd_ne _ _ (by omega))
    · by_cases h4 : n = 4
      · subst h4
        rw [enF_full h3 hp]
        intro m hm e
        rw [upd_at] at e
        exact absurd (e ▸ m1_lt) (nI_nn (n := m) (by omega))
      · rw [enF_new (by omega) h3 hp]
        intro m hm e
        rw [upd_at] at e
        have : n + 1 = m := (nI_eq (by omega) (by omega)).mp e
        subst this
        rcases h with h | h
        · obtain ⟨i, hi, ei⟩ := h n hn h3
          refine ⟨i, by omega, ?_⟩
          rw [upd_ne _ _ (by omega), upd_ne _ _ (by omega), upd_ne _ _ (by omega)]
          exact ei
        · refine ⟨n, by omega, ?_⟩
          rw [upd_ne _ _ (by omega), upd_ne _ _ (by omega), upd_at, h]
theorem memF_come {f : Nat → Int32} {k : Nat} {v w : Int32} (ho : okF f k) (h : memF f k w ∨ (w = v ∧ v ≠ 1000)) : memF (comeF f k v) k w := by
  unfold comeF
  split
  · rename_i hv
    rcases h with h | h
    · exact memF_same h (fun j _ _ => upd_ne _ _ (by omega))
    · exact absurd hv h.2
  · refine memF_en (okF_lg ho) ?_
    rcases h with h | h
    · exact Or.inl (memF_same h (fun j _ _ => lgF_hi _ _ _ (by omega)))
    · exact Or.inr h.1
theorem memF_an (rr f : Nat → Int32) (b c : Nat) : ∀ n r, r < n → rr (32 * b + 4 * r + c) ≠ 1000 → memF (anF rr f b c n) (4 * b + c) (rr (32 * b + 4 * r + c))
  | 0, r, hr, _ => absurd hr (Nat.not_lt_zero r)
  | n + 1, r, hr, hv => by
    show memF (comeF _ _ _) _ _
    refine memF_come (okF_an rr f b c n) ?_
    by_cases e : r = n
    · subst e; exact Or.inr ⟨rfl, hv⟩
    · exact Or.inl (memF_an rr f b c n r (by omega) hv)
def ent (v : Int32) : Prop := ¬ v < -999 ∧ ¬ 1000 < v
def PB (rr kn : Nat → Int32) (b n : Nat) : Prop := (∀ r c, r < n → c < 4 → ent (rr (32 * b + 4 * r + c)) ∧ (rr (32 * b + 4 * r + c) ≠ 1000 → memF kn (4 * b + c) (rr (32 * b + 4 * r + c)))) ∧ ∀ c, c < 4 → okF kn (4 * b + c) ∧ ndF kn (4 * b + c)
theorem PB.row {rr kn rr2 kn2 : Nat → Int32} {b n : Nat} (h : PB rr kn b n) (h1 : ∀ j, j < 4 * n → rr2 (32 * b + j) = rr (32 * b + j)) (h2 : ∀ j, j < 48 → kn2 (48 * b + j) = kn (48 * b + j)) : PB rr2 kn2 b n := by
  have e : ∀ c, c < 4 → ∀ j, j < 12 → kn2 (12 * (4 * b + c) + j) = kn (12 * (4 * b + c) + j) := fun c hc j hj => by
    have := h2 (12 * c + j) (by omega)
    rw [show 12 * (4 * b + c) + j = 48 * b + (12 * c + j) by omega]
    exact this
  refine ⟨fun r c hr hc => ?_, fun c hc => ⟨okF_same (h.2 c hc).1 (e c hc 3 (by omega)), ndF_same (h.2 c hc).2 (e c hc 3 (by omega)) (fun j hj => by rw [Nat.add_assoc, e c hc (4 + j) (by omega)])⟩⟩
  rw [Nat.add_assoc, h1 _ (by omega), ← Nat.add_assoc]
  exact ⟨(h.1 r c hr hc).1, fun hv => memF_same ((h.1 r c hr hc).2 hv) (fun j _ _ => e c hc j (by omega))⟩
theorem PB_add_c {rr kn a : Nat → Int32} {b n : Nat} (h : PB rr kn b n) (ha : ∀ c, c < 4 → ent (a c)) : ∀ c, c ≤ 4 → ∀ c', c' < 4 → okF (adF a kn b c) (4 * b + c') ∧ ndF (adF a kn b c) (4 * b + c') ∧ ∀ w, (memF kn (4 * b + c') w ∨ (c' < c ∧ w = a c' ∧ a c' ≠ 1000)) → memF (adF a kn b c) (4 * b + c') w
  | 0, _, c', hc' => ⟨(h.2 c' hc').1, (h.2 c' hc').2, fun w hw => by
    rcases hw with hw | ⟨hw, _⟩
    · exact hw
    · exact absurd hw (Nat.not_lt_zero c')⟩
  | c + 1, hc, c', hc' => by
    have ih := PB_add_c h ha c (by omega)
    have ihc := ih c (by omega)
    have ih' := ih c' hc'
    show okF (comeF _ _ _) _ ∧ ndF (comeF _ _ _) _ ∧ ∀ w, _ → memF (comeF _ _ _) _ w
    by_cases e : c' = c
    · subst e
      refine ⟨okF_come _ ih'.1, ndF_come _ ih'.1 ih'.2.1, fun w hw => memF_come ih'.1 ?_⟩
      rcases hw with hw | ⟨_, hw⟩
      · exact Or.inl (ih'.2.2 w (Or.inl hw))
      · exact Or.inr hw
    · have ho : ∀ j, j < 12 → comeF (adF a kn b c) (4 * b + c) (a c) (12 * (4 * b + c') + j) = adF a kn b c (12 * (4 * b + c') + j) := fun j hj => comeF_out ihc.1 (by omega)
      refine ⟨okF_same ih'.1 (ho 3 (by omega)), ndF_same ih'.2.1 (ho 3 (by omega)) (fun j hj => by rw [Nat.add_assoc, ho (4 + j) (by omega)]), fun w hw => memF_same (ih'.2.2 w ?_) (fun j _ _ => ho j (by omega))⟩
      rcases hw with hw | ⟨h1, hw⟩
      · exact Or.inl hw
      · exact Or.inr ⟨by omega, hw⟩
theorem PB_add {rr kn a : Nat → Int32} {b n : Nat} (h : PB rr kn b n) (ha : ∀ c, c < 4 → ent (a c)) : PB (rwA rr b n a 4) (adF a kn b 4) b (n + 1) := by
  have hc4 := PB_add_c h ha 4 (by omega)
  refine ⟨fun r c hr hc => ?_, fun c hc => ⟨(hc4 c hc).1, (hc4 c hc).2.1⟩⟩
  by_cases e : r = n
  · subst e
    have e1 : rwA rr b r a 4 (32 * b + 4 * r + c) = a c := by
      unfold rwA
      rw [if_pos (by omega)]
      congr 1
      omega
    rw [e1]
    exact ⟨ha c hc, fun hv => (hc4 c hc).2.2 _ (Or.inr ⟨hc, rfl, hv⟩)⟩
  · have e1 : rwA rr b n a 4 (32 * b + 4 * r + c) = rr (32 * b + 4 * r + c) := by
      unfold rwA
      rw [if_neg (by omega)]
    rw [e1]
    exact ⟨(h.1 r c (by omega) hc).1, fun hv => (hc4 c hc).2.2 _ (Or.inl ((h.1 r c (by omega) hc).2 hv))⟩
theorem leaveF_mid {f : Nat → Int32} {k : Nat} (v : Int32) {j : Nat} (h3 : 3 ≤ j) (h8 : j < 8) : leaveF f k v (12 * k + j) = f (12 * k + j) := by
  unfold leaveF
  split
  · rw [upd_ne _ _ (by omega)]
  · split
    · rfl
    · split
      · rw [upd_ne _ _ (by omega)]
      · rfl
theorem ldF_mid {rr kn : Nat → Int32} {b r : Nat} (h : ∀ c, c < 4 → okF kn (4 * b + c)) : ∀ c, c ≤ 4 → ∀ c', c' < 4 → ∀ j, 3 ≤ j → j < 8 → ldF rr kn b r c (12 * (4 * b + c') + j) = kn (12 * (4 * b + c') + j)
  | 0, _, _, _, _, _, _ => rfl
  | c + 1, hc, c', hc', j, h3, h8 => by
    have ih := ldF_mid (rr := rr) (r := r) h c (by omega) c' hc' j h3 h8
    show leaveF _ _ _ _ = _
    by_cases e : c' = c
    · subst e; rw [leaveF_mid _ h3 h8]; exact ih
    · rw [leaveF_out (okF_ld h c (by omega) c (by omega)) (by omega)]; exact ih
theorem PB_drop {rr kn : Nat → Int32} {b n r : Nat} (h : PB rr kn b n) (hr : r < n) : PB (rwD rr b r n) (ldF rr kn b r 4) b (n - 1) := by
  have hm := ldF_mid (rr := rr) (r := r) (fun c hc => (h.2 c hc).1) 4 (by omega)
  have h2 : ∀ c, c < 4 → ∀ w, memF kn (4 * b + c) w → memF (ldF rr kn b r 4) (4 * b + c) w := fun c hc w hw => memF_same hw (fun j h3 h8 => hm c hc j h3 h8)
  refine ⟨fun q c hq hc => ?_, fun c hc => ⟨okF_same (h.2 c hc).1 (hm c hc 3 (by omega) (by omega)), ndF_same (h.2 c hc).2 (hm c hc 3 (by omega) (by omega)) (fun j hj => by rw [Nat.add_assoc, hm c hc (4 + j) (by omega) (by omega)])⟩⟩
  have hx : ∃ q', q' < n ∧ rwD rr b r n (32 * b + 4 * q + c) = rr (32 * b + 4 * q' + c) := by
    unfold rwD
    by_cases hq2 : r ≤ q
    · refine ⟨q + 1, by omega, ?_⟩
      rw [if_pos (by omega)]
      congr 1
      omega
    · refine ⟨q, by omega, ?_⟩
      rw [if_neg (by omega)]
  obtain ⟨q', hq', e⟩ := hx
  rw [e]
  exact ⟨(h.1 q' c hq' hc).1, fun hv => h2 c hc _ ((h.1 q' c hq' hc).2 hv)⟩
theorem awF_out {rr kn : Nat → Int32} {b n : Nat} {j : Nat} (hj : j < 48 * b ∨ 48 * b + 48 ≤ j) : ∀ c, c ≤ 4 → awF rr kn b n c j = kn j
  | 0, _ => rfl
  | c + 1, hc => by
    show anF _ _ _ _ _ j = _
    rw [anF_out _ _ _ _ (by omega), awF_out hj c (by omega)]
theorem PB_anew_c {rr kn : Nat → Int32} {b n : Nat} : ∀ c, c ≤ 4 → ∀ c', c' < c → okF (awF rr kn b n c) (4 * b + c') ∧ ndF (awF rr kn b n c) (4 * b + c') ∧ ∀ r, r < n → rr (32 * b + 4 * r + c') ≠ 1000 → memF (awF rr kn b n c) (4 * b + c') (rr (32 * b + 4 * r + c'))
  | 0, _, c', hc' => absurd hc' (Nat.not_lt_zero c')
  | c + 1, hc, c', hc' => by
    show okF (anF _ _ _ _ _) _ ∧ ndF (anF _ _ _ _ _) _ ∧ ∀ r, _ → _ → memF (anF _ _ _ _ _) _ _
    by_cases e : c' = c
    · subst e
      exact ⟨okF_an _ _ _ _ _, ndF_an _ _ _ _ _, fun r hr hv => memF_an _ _ _ _ _ r hr hv⟩
    · have ih := PB_anew_c (rr := rr) (kn := kn) (b := b) (n := n) c (by omega) c' (by omega)
      have ho : ∀ j, j < 12 → anF rr (awF rr kn b n c) b c n (12 * (4 * b + c') + j) = awF rr kn b n c (12 * (4 * b + c') + j) := fun j hj => anF_out _ _ _ _ (by omega) n
      exact ⟨okF_same ih.1 (ho 3 (by omega)), ndF_same ih.2.1 (ho 3 (by omega)) (fun j hj => by rw [Nat.add_assoc, ho (4 + j) (by omega)]), fun r hr hv => memF_same (ih.2.2 r hr hv) (fun j _ _ => ho j (by omega))⟩
theorem PB_anew {rr kn : Nat → Int32} {b n : Nat} (h : PB rr kn b n) : PB rr (awF rr kn b n 4) b n := by
  have h4 := PB_anew_c (rr := rr) (kn := kn) (b := b) (n := n) 4 (by omega)
  exact ⟨fun r c hr hc => ⟨(h.1 r c hr hc).1, fun hv => (h4 c hc).2.2 r hr hv⟩, fun c hc => ⟨(h4 c hc).1, (h4 c hc).2.1⟩⟩
theorem c9_anew_13 {b n : Nat} (hb : b < 6) (hn : n ≤ 8) {Q : Int32 → Mem → Prop} {M0 : Mem} {kn : Nat → Int32} (hok : ∀ c, c < 4 → okF kn (4 * b + c)) (h31 : M0.1 (31, 0, 0, 0) b = nI n) (hQ : ∀ M1, onl M0 M1 [32, 33] → M1.1 (32, 0, 0, 0) = awF (M0.1 (30, 0, 0, 0)) kn b n 4 → Q (awN (M0.1 (30, 0, 0, 0)) kn b n 4) M1) : ∀ m c M, c + m = 4 → onl M0 M [32, 33] → M.1 (32, 0, 0, 0) = awF (M0.1 (30, 0, 0, 0)) kn b n c → w_X9_anew_13 (nI b) Q (m + 1) (awN (M0.1 (30, 0, 0, 0)) kn b n c) (nI c) M := by
  intro m
  induction m with
  | zero =>
    intro c M hi hf h32
    have : c = 4 := by omega
    subst this
    rw [w_X9_anew_13, if_pos (by decide)]
    exact hQ M hf h32
  | succ m ih =>
    intro c M hi hf h32
    rw [w_X9_anew_13, if_neg (by rw [nI_lel (by omega) (by omega)]; omega)]
    have e30 : M.1 (30, 0, 0, 0) = M0.1 (30, 0, 0, 0) := hf.1 _ (by simp)
    have e31 : M.1 (31, 0, 0, 0) b = nI n := by rw [hf.1 _ (by simp)]; exact h31
    have hokc : okF (M.1 (32, 0, 0, 0)) (4 * b + c) := by
      rw [h32]
      have : ∀ q, q ≤ c → okF (awF (M0.1 (30, 0, 0, 0)) kn b n q) (4 * b + c) := by
        intro q
        induction q with
        | zero => exact fun _ => hok c (by omega)
        | succ q ihq => exact fun hq => okF_same (ihq (by omega)) (anF_out _ _ _ _ (by omega) n)
      exact this c (Nat.le_refl c)
    refine c9_isStale hb (by omega) hn e31 hokc (fun r R33 h0 h1 => ?_)
    rw [e30, h32] at h1
    have hr := stI_of h0 h1
    have eN : awN (M0.1 (30, 0, 0, 0)) kn b n (c + 1) = awN (M0.1 (30, 0, 0, 0)) kn b n c + r := by rw [hr]; rfl
    have key : ∀ x, x = awN (M0.1 (30, 0, 0, 0)) kn b n c + r → w_X9_makeAnew (nI b) (nI c) (fun M38 => w_X9_anew_13 (nI b) Q (m + 1) x (nI c + 1) M38) (mr M (33, 0, 0, 0) R33) := by
      intro x ex
      rw [ex, ← eN]
      refine c9_makeAnew hb (by omega) hn (by rw [mr_ne _ _ (by simp)]; exact e31) ?_
      rw [mr_ne _ _ (by simp), mr_ne _ _ (by simp), nI_1, e30, h32]
      exact ih (c + 1) _ (by omega) ((hf.tr (onl.mr _ (by simp))).tr (onl.mr _ (by simp))) (by rw [mr_at]; rfl)
    rcases h0 with h0 | h0
    · rw [if_pos h0]
      exact fun x ex => key x (by rw [ex, h0])
    · rw [if_neg (by rw [h0]; decide)]
      exact fun x ex => key x (by rw [ex, h0])
