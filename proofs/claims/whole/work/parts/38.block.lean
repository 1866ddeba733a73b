/-! copies of summaries; a block of the class -/
theorem cpy4 (f g : Nat → Int32) {k : Nat} (h : k < 4) : va_cpy f g 0 0 4 k = f k := by
  unfold va_cpy
  rw [if_pos (by omega), Nat.zero_add, Nat.sub_zero]
theorem c6_copyFrom {s b c s1 b1 c1 k : Nat} {Q : Mem → Prop} {M : Mem} {f : Nat → Int32} (hne : ¬ (s1 = s ∧ b1 = b ∧ c1 = c)) (hR : RSum M s1 b1 c1 f k) (hQ : ∀ M1, fr3 M M1 s b c → RSum M1 s b c f k → Q M1) : w_X6_copyFrom s b c s1 b1 c1 Q M := by
  have ne : ∀ t, ((t, s1, b1, c1) : ix) ≠ (t, s, b, c) := fun t e => hne (by simpa using e)
  intro M13 e13
  have a1 : ∀ x, (mu M (7, s, b, c) 0 x).1 (7, s1, b1, c1) = M.1 (7, s1, b1, c1) := fun x => mu_ne _ _ _ (ne 7)
  rw [a1, mu_of0 M, mu_mr] at e13
  intro M29 e29
  have a2 : ∀ x, (mu M13 (7, s, b, c) 2 x).1 (7, s1, b1, c1) = M.1 (7, s1, b1, c1) := fun x => by rw [mu_ne _ _ _ (ne 7), e13, mr_ne _ _ (ne 7)]
  have a3 : M13.1 (7, s1, b1, c1) = M.1 (7, s1, b1, c1) := by rw [e13, mr_ne _ _ (ne 7)]
  rw [a2, a3, mu_of e13, mu_mr] at e29
  have a4 : M29.1 (7, s1, b1, c1) = M.1 (7, s1, b1, c1) := by rw [e29, mr_ne _ _ (ne 7)]
  rw [a4, mu_of e29]
  obtain ⟨r0, r1, r2, r3⟩ := hR
  have h4 : M.1 (7, s1, b1, c1) 4 = 0 ∨ M.1 (7, s1, b1, c1) 4 = 1 := by
    rcases r3 with ⟨h1, h2, h3⟩ | ⟨n, hn, h1, h2, h3, h4⟩
    · exact Or.inr h2
    · exact Or.inl h2
  refine ⟨h4, fun M51 e51 => ?_⟩
  have a5 : M51.1 (9, s1, b1, c1) = M.1 (9, s1, b1, c1) := by rw [e51, mr_ne _ _ (by simp), mr_ne _ _ (by simp)]
  have a6 : fr3 M (mr M51 (9, s, b, c) (va_cpy (M51.1 (9, s1, b1, c1)) (M51.1 (9, s, b, c)) 0 0 4)) s b c := by
    refine fr3.tr ?_ (fr3.mr9 M51 s b c _)
    rw [e51]
    exact fr3.tr (fr3.mr7 M s b c _) (fr3.mr8 _ s b c _)
  refine hQ _ a6 ?_
  have e7 : (mr M51 (9, s, b, c) (va_cpy (M51.1 (9, s1, b1, c1)) (M51.1 (9, s, b, c)) 0 0 4)).1 (7, s, b, c) = M51.1 (7, s, b, c) := mr_ne _ _ (by simp)
  have e8 : (mr M51 (9, s, b, c) (va_cpy (M51.1 (9, s1, b1, c1)) (M51.1 (9, s, b, c)) 0 0 4)).1 (8, s, b, c) = M51.1 (8, s, b, c) := mr_ne _ _ (by simp)
  unfold RSum
  rw [e7, e8, mr_at, a5, e51, mr_ne _ _ (by simp), mr_at, mr_at, mr_ne _ _ (by simp)]
  simp only [upd, ← r0, ← r1, ← r2]
  refine ⟨by simp, by simp, by simp, ?_⟩
  rcases r3 with ⟨h1, h2, h3⟩ | ⟨n, hn, h1, h2, h3, h4⟩
  · exact Or.inl ⟨h1, by simpa using h2, by simpa using h3⟩
  · refine Or.inr ⟨n, hn, h1, by simpa using h2, by simpa using h3, fun i hi => ?_⟩
    rw [cpy4 _ _ (by omega), cpy4 _ _ (by omega)]
    exact h4 i hi
/-- the cells of a block -/
def bC (s b : Nat) (i : ix) : Prop := (i.1 = 3 ∨ i.1 = 5 ∨ i.1 = 7 ∨ i.1 = 8 ∨ i.1 = 9) ∧ i.2.1 = s ∧ i.2.2.1 = b
def frB (M M1 : Mem) (s b : Nat) : Prop := (∀ i, ¬ bC s b i → M1.1 i = M.1 i) ∧ M1.2 = M.2
theorem frB.rf {M : Mem} {s b : Nat} : frB M M s b := ⟨fun _ _ => rfl, rfl⟩
theorem frB.tr {M M1 M2 : Mem} {s b : Nat} (h : frB M M1 s b) (h2 : frB M1 M2 s b) : frB M M2 s b := ⟨fun i hi => (h2.1 i hi).trans (h.1 i hi), h2.2.trans h.2⟩
theorem fr3.B {M M1 : Mem} {s b c : Nat} (h : fr3 M M1 s b c) : frB M M1 s b := by
  refine ⟨fun i hi => h.1 i (fun hj => hi ?_), h.2⟩
  rcases hj with e | e | e <;> subst e
  · exact ⟨Or.inr (Or.inr (Or.inl rfl)), rfl, rfl⟩
  · exact ⟨Or.inr (Or.inr (Or.inr (Or.inl rfl))), rfl, rfl⟩
  · exact ⟨Or.inr (Or.inr (Or.inr (Or.inr rfl))), rfl, rfl⟩
theorem frB.mr (M : Mem) {s b : Nat} {i : ix} (r : Nat → Int32) (h : bC s b i) : frB M (mr M i r) s b := ⟨fun _ hi => mr_ne _ _ (fun e => hi (e ▸ h)), rfl⟩
theorem bC3 (s b c : Nat) : bC s b (3, s, b, c) := ⟨Or.inl rfl, rfl, rfl⟩
theorem bC5 (s b c : Nat) : bC s b (5, s, b, c) := ⟨Or.inr (Or.inl rfl), rfl, rfl⟩
theorem fr3.oth {M M1 : Mem} {s b c : Nat} (h : fr3 M M1 s b c) {t s1 b1 c1 : Nat} (hne : ¬ (s1 = s ∧ b1 = b ∧ c1 = c)) : M1.1 (t, s1, b1, c1) = M.1 (t, s1, b1, c1) := by
  refine h.1 _ (fun hj => hne ?_)
  rcases hj with e | e | e
  · have := e; simp only [Prod.mk.injEq] at this; exact this.2
  · have := e; simp only [Prod.mk.injEq] at this; exact this.2
  · have := e; simp only [Prod.mk.injEq] at this; exact this.2
theorem fr3.knd {M M1 : Mem} {s b c : Nat} (h : fr3 M M1 s b c) {t s1 b1 c1 : Nat} (h7 : t ≠ 7) (h8 : t ≠ 8) (h9 : t ≠ 9) : M1.1 (t, s1, b1, c1) = M.1 (t, s1, b1, c1) := by
  refine h.1 _ (fun hj => ?_)
  rcases hj with e | e | e
  · have := e; simp only [Prod.mk.injEq] at this; exact h7 this.1
  · have := e; simp only [Prod.mk.injEq] at this; exact h8 this.1
  · have := e; simp only [Prod.mk.injEq] at this; exact h9 this.1
theorem RSum.oth {M M1 : Mem} {s b c : Nat} (h : fr3 M M1 s b c) {s1 b1 c1 k : Nat} {f : Nat → Int32} (hne : ¬ (s1 = s ∧ b1 = b ∧ c1 = c)) (hR : RSum M s1 b1 c1 f k) : RSum M1 s1 b1 c1 f k := hR.keep (h.oth hne) (h.oth hne) (h.oth hne)
/-- the block b of the store s is what the reference's rows say -/
def RB (M : Mem) (s b : Nat) (rr kn : Nat → Int32) (n : Nat) : Prop := M.1 (3, s, b, 0) 0 = nI n ∧ n ≤ 8 ∧ (∀ r c, r < n → c < 4 → M.1 (5, s, b, r) c = rr (32 * b + 4 * r + c)) ∧ ∀ c, c < 4 → RSum M s b c kn (4 * b + c)
/-- makeFresh -/
theorem c0_makeFresh_9 {s b c n : Nat} (hc : c < 4) (hn : n ≤ 8) {Q : Mem → Prop} {M0 : Mem} {rr f : Nat → Int32} (h3 : M0.1 (3, s, b, 0) 0 = nI n) (h5 : ∀ r, r < n → M0.1 (5, s, b, r) c = rr (32 * b + 4 * r + c)) (hQ : ∀ M1, fr3 M0 M1 s b 4 → RSum M1 s b 4 (anF rr f b c n) (4 * b + c) → Q M1) : ∀ m i M, i + m = n → fr3 M0 M s b 4 → RSum M s b 4 (anF rr f b c i) (4 * b + c) → w_X0_makeFresh_9 s b (nI c) Q (m + 1) (nI i) M := by
  intro m
  induction m with
  | zero =>
    intro i M hi hf hR
    have : i = n := by omega
    subst this
    rw [w_X0_makeFresh_9, hf.knd (by omega) (by omega) (by omega), h3, if_pos (by rw [nI_leI (by omega) (by omega)]; omega)]
    exact hQ M hf hR
  | succ m ih =>
    intro i M hi hf hR
    rw [w_X0_makeFresh_9, hf.knd (by omega) (by omega) (by omega), h3, if_neg (by rw [nI_leI (by omega) (by omega)]; omega)]
    refine ⟨vpT (by omega) (by omega), vpT (by omega) (by omega), ?_⟩
    rw [nI_clamp (by omega), nI_clamp (by omega), hf.knd (by omega) (by omega) (by omega), h5 i (by omega)]
    refine c6_come hR (fun M1 hf1 hR1 => ?_)
    rw [nI_1]
    exact ih (i + 1) M1 (by omega) (hf.tr hf1) hR1
theorem c0_makeFresh {s b c n : Nat} (hc : c < 4) (hn : n ≤ 8) {Q : Mem → Prop} {M : Mem} {rr : Nat → Int32} (f : Nat → Int32) (h3 : M.1 (3, s, b, 0) 0 = nI n) (h5 : ∀ r, r < n → M.1 (5, s, b, r) c = rr (32 * b + 4 * r + c)) (hQ : ∀ M1, fr3 M M1 s b 4 → RSum M1 s b 4 (anF rr f b c n) (4 * b + c) → Q M1) : w_X0_makeFresh s b (nI c) Q M :=
  c6_clear (f := f) (k := 4 * b + c) fun M1 hf hR => ⟨n + 1, c0_makeFresh_9 hc hn h3 h5 hQ n 0 M1 (by omega) hf hR⟩
theorem c0_isStale {s b c n : Nat} (hc : c < 4) {Q : Int32 → Mem → Prop} {M : Mem} {rr kn : Nat → Int32} (hB : RB M s b rr kn n) (hnd : ndF kn (4 * b + c)) (hQ : ∀ r M1, (r = 0 ∨ r = 1) → (r = 0 ↔ ¬ stP kn (anF rr kn b c n) (4 * b + c)) → fr3 M M1 s b 4 → RSum M1 s b 4 (anF rr kn b c n) (4 * b + c) → Q r M1) : w_X0_isStale s b (nI c) Q M := by
  obtain ⟨h3, hn, h5, h7⟩ := hB
  refine c0_makeFresh hc hn kn h3 (fun r hr => h5 r c hr hc) (fun M1 hf hR => ⟨vpT (by omega) (by omega), ?_⟩)
  rw [nI_clamp (by omega)]
  exact c6_differs (RSum.oth hf (by omega) (h7 c hc)) hR hnd (ndF_an _ _ _ _ _) (fun r h0 h1 => ⟨h0, hQ r M1 h0 h1 hf hR⟩)
