/-! the whole world: the class, the reference, and the images that were kept -/
def lvs (f : Nat → Int32) : ix → Prop := fun i => jX i ∨ jK 29 18 i ∨ (f 0 ≠ 0 ∧ jT 1 i) ∨ (f 1 ≠ 0 ∧ jT 2 i)
def lvT (f : Nat → Int32) (s : Nat) : Prop := s = 0 ∨ (s = 1 ∧ f 0 ≠ 0) ∨ (s = 2 ∧ f 1 ≠ 0)
theorem lvs_T {f : Nat → Int32} {s : Nat} {i : ix} (hs : lvT f s) (h : jT s i) : lvs f i := by
  rcases hs with rfl | ⟨rfl, h1⟩ | ⟨rfl, h1⟩
  · exact Or.inl (Or.inr (Or.inl h))
  · exact Or.inr (Or.inr (Or.inl ⟨h1, h⟩))
  · exact Or.inr (Or.inr (Or.inr ⟨h1, h⟩))
theorem lvs_low {f : Nat → Int32} {i : ix} (h : lvs f i) (h1 : 1 ≤ i.1) (h2 : i.1 ≤ 9) : ∃ s, lvT f s ∧ jT s i := by
  rcases h with (h | h | h | h | h | h | h | h | h | h) | h | ⟨h0, h⟩ | ⟨h0, h⟩
  · rw [h] at h1; exact absurd h1 (by decide)
  · exact ⟨0, Or.inl rfl, h⟩
  · rw [h] at h2; exact absurd h2 (by decide)
  · have := jK_r h; omega
  · have := jK_r h; omega
  · have := jK_r h; omega
  · rw [h] at h2; exact absurd h2 (by decide)
  · rw [h] at h2; exact absurd h2 (by decide)
  · have := jK_r h; omega
  · have := jK_r h; omega
  · have := jK_r h; omega
  · exact ⟨1, Or.inr (Or.inl ⟨rfl, h0⟩), h⟩
  · exact ⟨2, Or.inr (Or.inr ⟨rfl, h0⟩), h⟩
theorem lvs_27 {f : Nat → Int32} {i : ix} (h : lvs f i) (h1 : i.1 = 27) : i = (27, 0, 0, 0) := by
  rcases h with (h | h | h | h | h | h | h | h | h | h) | h | ⟨h0, h⟩ | ⟨h0, h⟩
  · rw [h] at h1; exact absurd h1 (by decide)
  · have := jT_r h; omega
  · rw [h] at h1; exact absurd h1 (by decide)
  · have := jK_r h; omega
  · have := jK_r h; omega
  · have := jK_r h; omega
  · rw [h] at h1; exact absurd h1 (by decide)
  · rw [h] at h1; exact absurd h1 (by decide)
  · obtain ⟨k, -, -, rfl⟩ := h; dsimp only at h1; rw [h1]
  · have := jK_r h; omega
  · have := jK_r h; omega
  · have := jT_r h; omega
  · have := jT_r h; omega
theorem lvs_K {f : Nat → Int32} {a n k : Nat} (h : ∀ i, jK a n i → lvs f i) (h1 : a ≤ k) (h2 : k < a + n) : lvs f (k, 0, 0, 0) := h _ ⟨k, h1, h2, rfl⟩
theorem lvs_q {f : Nat → Int32} : ∀ i, jK 11 7 i → lvs f i := fun i h => Or.inl (Or.inr (Or.inr (Or.inr (Or.inl h))))
theorem lvs_rj {f : Nat → Int32} : ∀ i, jK 18 2 i → lvs f i := fun i h => Or.inl (Or.inr (Or.inr (Or.inr (Or.inr (Or.inl h)))))
theorem lvs_nj {f : Nat → Int32} : ∀ i, jK 20 4 i → lvs f i := fun i h => Or.inl (Or.inr (Or.inr (Or.inr (Or.inr (Or.inr (Or.inl h))))))
theorem lvs_ky {f : Nat → Int32} : ∀ i, jK 26 2 i → lvs f i := fun i h => Or.inl (Or.inr (Or.inr (Or.inr (Or.inr (Or.inr (Or.inr (Or.inr (Or.inr (Or.inl h)))))))))
theorem lvs_ta {f : Nat → Int32} : ∀ i, jK 28 1 i → lvs f i := fun i h => Or.inl (Or.inr (Or.inr (Or.inr (Or.inr (Or.inr (Or.inr (Or.inr (Or.inr (Or.inr h)))))))))
theorem lvs_md {f : Nat → Int32} : ∀ i, jK 29 18 i → lvs f i := fun i h => Or.inr (Or.inl h)
theorem lvs_0 {f : Nat → Int32} : lvs f (0, 0, 0, 0) := Or.inl (Or.inl rfl)
theorem lvs_10 {f : Nat → Int32} : lvs f (10, 0, 0, 0) := Or.inl (Or.inr (Or.inr (Or.inl rfl)))
theorem lvs_24 {f : Nat → Int32} : lvs f (24, 0, 0, 0) := Or.inl (Or.inr (Or.inr (Or.inr (Or.inr (Or.inr (Or.inr (Or.inl rfl)))))))
theorem lvs_25 {f : Nat → Int32} : lvs f (25, 0, 0, 0) := Or.inl (Or.inr (Or.inr (Or.inr (Or.inr (Or.inr (Or.inr (Or.inr (Or.inl rfl))))))))
theorem jT_low {s k s2 b c : Nat} (h : jT s (k, s2, b, c)) : s2 = s := (jT_r h).2.2
theorem clo_lvs (f : Nat → Int32) : clo (lvs f) := by
  refine ⟨fun s h => ?_, fun s b h hb => ?_, fun s b h => ?_, fun s b r h hr => ?_, fun s b c h hc => ?_, fun s b c h => ?_, fun h => ?_, fun h => ?_, fun h => ?_, fun h => ?_, fun h => ?_, fun h k h1 h2 => ?_, fun j h h1 => lvs_27 h h1⟩
  · obtain ⟨s2, hs, h⟩ := lvs_low h (Nat.le_of_ble_eq_true rfl) (Nat.le_of_ble_eq_true rfl)
    have := jT_low h
    subst this
    exact lvs_T hs (Or.inr (Or.inl rfl))
  · obtain ⟨s2, hs, h⟩ := lvs_low h (Nat.le_of_ble_eq_true rfl) (Nat.le_of_ble_eq_true rfl)
    have := jT_low h
    subst this
    exact lvs_T hs (Or.inr (Or.inr ⟨b, hb, Or.inl rfl⟩))
  · obtain ⟨s2, hs, h⟩ := lvs_low h (Nat.le_of_ble_eq_true rfl) (Nat.le_of_ble_eq_true rfl)
    have := jT_low h
    subst this
    have hb : b < 6 := by
      rcases h with h | h | ⟨b2, hb, h⟩
      · simp at h
      · simp at h
      · have := jB_r h
        dsimp only at this
        omega
    exact ⟨lvs_T hs (Or.inr (Or.inr ⟨b, hb, Or.inr (Or.inl rfl)⟩)), lvs_T hs (Or.inr (Or.inr ⟨b, hb, Or.inr (Or.inr (Or.inr (Or.inl rfl)))⟩)), lvs_T hs (Or.inr (Or.inr ⟨b, hb, Or.inr (Or.inr (Or.inr (Or.inr ⟨4, by decide, Or.inl rfl⟩)))⟩))⟩
  · obtain ⟨s2, hs, h⟩ := lvs_low h (Nat.le_of_ble_eq_true rfl) (Nat.le_of_ble_eq_true rfl)
    have := jT_low h
    subst this
    have hb : b < 6 := by
      rcases h with h | h | ⟨b2, hb, h⟩
      · simp at h
      · simp at h
      · have := jB_r h
        dsimp only at this
        omega
    exact lvs_T hs (Or.inr (Or.inr ⟨b, hb, Or.inr (Or.inr (Or.inl ⟨r, hr, rfl⟩))⟩))
  · obtain ⟨s2, hs, h⟩ := lvs_low h (Nat.le_of_ble_eq_true rfl) (Nat.le_of_ble_eq_true rfl)
    have := jT_low h
    subst this
    have hb : b < 6 := by
      rcases h with h | h | ⟨b2, hb, h⟩
      · simp at h
      · simp at h
      · have := jB_r h
        dsimp only at this
        omega
    exact lvs_T hs (Or.inr (Or.inr ⟨b, hb, Or.inr (Or.inr (Or.inr (Or.inr ⟨c, by omega, Or.inl rfl⟩)))⟩))
  · obtain ⟨s2, hs, h⟩ := lvs_low h (Nat.le_of_ble_eq_true rfl) (Nat.le_of_ble_eq_true rfl)
    have := jT_low h
    subst this
    have hb : b < 6 ∧ c < 5 := by
      rcases h with h | h | ⟨b2, hb, h⟩
      · simp at h
      · simp at h
      · have h2 := jB_r h
        dsimp only at h2
        rcases h with h | h | ⟨r, hr, h⟩ | h | ⟨c2, hc, h⟩
        · simp at h
        · simp at h
        · simp at h
        · simp at h
        · have := jS_r h
          dsimp only at this
          omega
    exact ⟨lvs_T hs (Or.inr (Or.inr ⟨b, hb.1, Or.inr (Or.inr (Or.inr (Or.inr ⟨c, hb.2, Or.inr (Or.inl rfl)⟩)))⟩)), lvs_T hs (Or.inr (Or.inr ⟨b, hb.1, Or.inr (Or.inr (Or.inr (Or.inr ⟨c, hb.2, Or.inr (Or.inr rfl)⟩)))⟩))⟩
  · exact ⟨lvs_T (Or.inl rfl) (Or.inl rfl), lvs_10, lvs_K lvs_q (by decide) (by decide), lvs_K lvs_rj (by decide) (by decide), lvs_K lvs_nj (by decide) (by decide), lvs_24, lvs_25, lvs_K lvs_ky (by decide) (by decide), lvs_K lvs_ta (by decide) (by decide)⟩
  · exact ⟨lvs_K lvs_q (by decide) (by decide), lvs_K lvs_q (by decide) (by decide), lvs_K lvs_q (by decide) (by decide), lvs_K lvs_q (by decide) (by decide), lvs_K lvs_q (by decide) (by decide), lvs_K lvs_q (by decide) (by decide)⟩
  · exact ⟨lvs_K lvs_q (by decide) (by decide), lvs_K lvs_rj (by decide) (by decide)⟩
  · exact ⟨lvs_K lvs_nj (by decide) (by decide), lvs_K lvs_nj (by decide) (by decide), lvs_K lvs_nj (by decide) (by decide), lvs_K lvs_q (by decide) (by decide)⟩
  · exact lvs_K lvs_ky (by decide) (by decide)
  · exact lvs_K lvs_md (by omega) (by omega)
theorem lvs_img {f : Nat → Int32} : ∀ k, k < 2 → ¬ f k = 0 → lvs f (1, k + 1, 0, 0) := by
  intro k hk h
  rcases (show k = 0 ∨ k = 1 by omega) with rfl | rfl
  · exact lvs_T (Or.inr (Or.inl ⟨rfl, h⟩)) (Or.inl rfl)
  · exact lvs_T (Or.inr (Or.inr ⟨rfl, h⟩)) (Or.inl rfl)
/-- what refers, with the images -/
def FS (f : Nat → Int32) : Fm := fun i => if i = (10, 0, 0, 0) then (fun j => if j < 2 ∧ f j ≠ 0 then some (1, j + 1, 0, 0) else none) else f0 i
theorem vpq_congr {c : ClassId} {n : Nat} {f g : Nat → Option Nat} (h : ∀ j, j < n → f j = g j) : vp_cell c (n, .inr (.inr (.inr (.inr f)))) = vp_cell c (n, .inr (.inr (.inr (.inr g)))) := by
  rw [vp_cell_q, vp_cell_q]
  unfold arrV
  congr 2
  funext j
  show va_rf (f j.val) = va_rf (g j.val)
  rw [h j.val j.isLt]
/-- a store's cells refer to its own -/
theorem jT_f0 {f : Nat → Int32} {s : Nat} (hs : lvT f s) {i : ix} (hi : jT s i) {k : Nat} {r : ix} (h : f0 i k = some r) : lvs f r := by
  refine lvs_T hs ?_
  rcases hi with rfl | rfl | ⟨b, hb, rfl | rfl | ⟨q, hq, rfl⟩ | rfl | ⟨c, hc, rfl | rfl | rfl⟩⟩
  · simp only [f0] at h
    split at h
    · cases h; exact Or.inr (Or.inl rfl)
    · cases h
  · simp only [f0] at h
    split at h
    · rename_i hk; cases h; exact Or.inr (Or.inr ⟨k, hk, Or.inl rfl⟩)
    · cases h
  · simp only [f0] at h
    repeat' split at h
    · cases h; exact Or.inr (Or.inr ⟨b, hb, Or.inr (Or.inl rfl)⟩)
    · cases h; exact Or.inr (Or.inr ⟨b, hb, Or.inr (Or.inr (Or.inr (Or.inl rfl)))⟩)
    · cases h; exact Or.inr (Or.inr ⟨b, hb, Or.inr (Or.inr (Or.inr (Or.inr ⟨4, by decide, Or.inl rfl⟩)))⟩)
    · cases h
  · simp only [f0] at h
    split at h
    · rename_i hk; cases h; exact Or.inr (Or.inr ⟨b, hb, Or.inr (Or.inr (Or.inl ⟨k, hk, rfl⟩))⟩)
    · cases h
  · cases h
  · simp only [f0] at h
    split at h
    · rename_i hk; cases h; exact Or.inr (Or.inr ⟨b, hb, Or.inr (Or.inr (Or.inr (Or.inr ⟨k, by omega, Or.inl rfl⟩)))⟩)
    · cases h
  · simp only [f0] at h
    repeat' split at h
    · cases h; exact Or.inr (Or.inr ⟨b, hb, Or.inr (Or.inr (Or.inr (Or.inr ⟨c, hc, Or.inr (Or.inl rfl)⟩)))⟩)
    · cases h; exact Or.inr (Or.inr ⟨b, hb, Or.inr (Or.inr (Or.inr (Or.inr ⟨c, hc, Or.inr (Or.inr rfl)⟩)))⟩)
    · cases h
  · cases h
  · cases h
theorem lvs_f0 {f : Nat → Int32} {i : ix} (hi : lvs f i) (h10 : i ≠ (10, 0, 0, 0)) {k : Nat} {r : ix} (h : f0 i k = some r) : lvs f r := by
  have C := clo_lvs f
  rcases hi with (h1 | h1 | h1 | h1 | h1 | h1 | h1 | h1 | h1 | h1) | h1 | ⟨h0, h1⟩ | ⟨h0, h1⟩
  · subst h1
    have hh := C.2.2.2.2.2.2.1 lvs_0
    simp only [f0] at h
    repeat' split at h
    all_goals first | (cases h; done) | (cases h; first | exact hh.1 | exact hh.2.1 | exact hh.2.2.1 | exact hh.2.2.2.1 | exact hh.2.2.2.2.1 | exact hh.2.2.2.2.2.1 | exact hh.2.2.2.2.2.2.1 | exact hh.2.2.2.2.2.2.2.1 | exact hh.2.2.2.2.2.2.2.2)
  · exact jT_f0 (Or.inl rfl) h1 h
  · exact absurd h1 h10
  · obtain ⟨q, h2, h3, rfl⟩ := h1
    rcases (show q = 11 ∨ q = 12 ∨ q = 13 ∨ q = 14 ∨ q = 15 ∨ q = 16 ∨ q = 17 by omega) with rfl | rfl | rfl | rfl | rfl | rfl | rfl
    · simp only [f0] at h
      split at h
      · cases h; exact lvs_K lvs_q (by omega) (by omega)
      · cases h
    all_goals cases h
  · obtain ⟨q, h2, h3, rfl⟩ := h1
    rcases (show q = 18 ∨ q = 19 by omega) with rfl | rfl
    · simp only [f0] at h
      repeat' split at h
      all_goals first | (cases h; done) | (cases h; first | exact lvs_K lvs_q (by decide) (by decide) | exact lvs_K lvs_rj (by decide) (by decide))
    · cases h
  · obtain ⟨q, h2, h3, rfl⟩ := h1
    rcases (show q = 20 ∨ q = 21 ∨ q = 22 ∨ q = 23 by omega) with rfl | rfl | rfl | rfl
    · simp only [f0] at h
      repeat' split at h
      all_goals first | (cases h; done) | (cases h; first | exact lvs_K lvs_nj (by decide) (by decide) | exact lvs_K lvs_q (by decide) (by decide))
    all_goals cases h
  · subst h1; cases h
  · subst h1; cases h
  · obtain ⟨q, h2, h3, rfl⟩ := h1
    rcases (show q = 26 ∨ q = 27 by omega) with rfl | rfl
    · simp only [f0] at h
      split at h
      · cases h; exact lvs_K lvs_ky (by decide) (by decide)
      · cases h
    · cases h
  · obtain ⟨q, h2, h3, rfl⟩ := h1
    have : q = 28 := by omega
    subst this
    cases h
  · obtain ⟨q, h2, h3, rfl⟩ := h1
    by_cases hq : q = 29
    · subst hq
      simp only [f0] at h
      repeat' split at h
      all_goals first | (cases h; done) | (cases h; exact lvs_K lvs_md (by omega) (by omega))
    · exfalso
      rcases (show q = 30 ∨ q = 31 ∨ q = 32 ∨ q = 33 ∨ q = 34 ∨ q = 35 ∨ q = 36 ∨ q = 37 ∨ q = 38 ∨ q = 39 ∨ q = 40 ∨ q = 41 ∨ q = 42 ∨ q = 43 ∨ q = 44 ∨ q = 45 ∨ q = 46 by omega) with rfl | rfl | rfl | rfl | rfl | rfl | rfl | rfl | rfl | rfl | rfl | rfl | rfl | rfl | rfl | rfl | rfl <;> cases h
  · exact jT_f0 (Or.inr (Or.inl ⟨rfl, h0⟩)) h1 h
  · exact jT_f0 (Or.inr (Or.inr ⟨rfl, h0⟩)) h1 h
theorem w2_of_wd {G : GG} {f : Nat → Int32} {ad : ix → Nat} {M : Mem} {H : Heap} (h : wd G (lvs f) ad M H) (hf : M.1 (10, 0, 0, 0) = f) : w2 G (lvs f) ad M (FS f) H := by
  refine ⟨fun i hi => ?_, h.2, fun i hi k r hr => ?_⟩
  · by_cases e : i = (10, 0, 0, 0)
    · subst e
      have h1 : H[ad (10, 0, 0, 0)]? = some (vp_cell (G.2 4) (2, .inr (.inr (.inr (.inr (fun j => if M.1 (10, 0, 0, 0) j = 0 then none else some (ad (1, j + 1, 0, 0)))))))) := h.1 _ hi
      show H[ad (10, 0, 0, 0)]? = some (vp_cell (G.2 4) (2, .inr (.inr (.inr (.inr (adr ad (FS f (10, 0, 0, 0))))))))
      rw [h1]
      congr 1
      refine vpq_congr (fun j hj => ?_)
      rw [hf]
      show _ = Option.map ad (if j < 2 ∧ f j ≠ 0 then some (1, j + 1, 0, 0) else none)
      by_cases hz : f j = 0
      · simp [hz]
      · simp [hz, hj]
    · have e1 : FS f i = f0 i := if_neg e
      have h10 : i.1 ≠ 10 := by
        intro q
        apply e
        rcases hi with (h1 | h1 | h1 | h1 | h1 | h1 | h1 | h1 | h1 | h1) | h1 | ⟨h0, h1⟩ | ⟨h0, h1⟩
        · rw [h1] at q; exact absurd q (by decide)
        · have := jT_r h1; omega
        · exact h1
        · have := jK_r h1; omega
        · have := jK_r h1; omega
        · have := jK_r h1; omega
        · rw [h1] at q; exact absurd q (by decide)
        · rw [h1] at q; exact absurd q (by decide)
        · have := jK_r h1; omega
        · have := jK_r h1; omega
        · have := jK_r h1; omega
        · have := jT_r h1; omega
        · have := jT_r h1; omega
      rw [e1, p2_f0 G ad i _ _ h10]
      exact h.1 i hi
  · by_cases e : i = (10, 0, 0, 0)
    · subst e
      have hr : (if k < 2 ∧ f k ≠ 0 then some ((1, k + 1, 0, 0) : ix) else none) = some r := hr
      split at hr
      · rename_i hk
        cases hr
        exact lvs_img k hk.1 hk.2
      · cases hr
    · have e1 : FS f i = f0 i := if_neg e
      rw [e1] at hr
      exact lvs_f0 hi e hr
theorem lvs_n10 {f : Nat → Int32} {i : ix} (hi : lvs f i) (e : i ≠ (10, 0, 0, 0)) : i.1 ≠ 10 := by
  intro q
  apply e
  rcases hi with (h1 | h1 | h1 | h1 | h1 | h1 | h1 | h1 | h1 | h1) | h1 | ⟨h0, h1⟩ | ⟨h0, h1⟩
  · rw [h1] at q; exact absurd q (by decide)
  · have := jT_r h1; omega
  · exact h1
  · have := jK_r h1; omega
  · have := jK_r h1; omega
  · have := jK_r h1; omega
  · rw [h1] at q; exact absurd q (by decide)
  · rw [h1] at q; exact absurd q (by decide)
  · have := jK_r h1; omega
  · have := jK_r h1; omega
  · have := jK_r h1; omega
  · have := jT_r h1; omega
  · have := jT_r h1; omega
theorem wd_of_w2 {G : GG} {f : Nat → Int32} {ad : ix → Nat} {M : Mem} {F : Fm} {H : Heap} (h : w2 G (lvs f) ad M F H) (M2 : Mem) (hM : ∀ i, lvs f i → i ≠ (10, 0, 0, 0) → M2.1 i = M.1 i) (hw : M2.2 = M.2) (hf : M2.1 (10, 0, 0, 0) = f) (hF : ∀ i, lvs f i → i ≠ (10, 0, 0, 0) → F i = f0 i) (hF10 : ∀ j, j < 2 → F (10, 0, 0, 0) j = if f j = 0 then none else some (1, j + 1, 0, 0)) : wd G (lvs f) ad M2 H := by
  refine ⟨fun i hi => ?_, h.2.1⟩
  by_cases e : i = (10, 0, 0, 0)
  · subst e
    have h1 : H[ad (10, 0, 0, 0)]? = some (vp_cell (G.2 4) (2, .inr (.inr (.inr (.inr (adr ad (F (10, 0, 0, 0)))))))) := h.1 _ hi
    show H[ad (10, 0, 0, 0)]? = some (vp_cell (G.2 4) (2, .inr (.inr (.inr (.inr (fun j => if M2.1 (10, 0, 0, 0) j = 0 then none else some (ad (1, j + 1, 0, 0))))))))
    rw [h1]
    congr 1
    refine vpq_congr (fun j hj => ?_)
    rw [hf]
    show Option.map ad (F (10, 0, 0, 0) j) = _
    rw [hF10 j hj]
    by_cases hz : f j = 0
    · simp [hz]
    · simp [hz]
  · have h1 := h.1 i hi
    rw [hF i hi e, p2_f0 G ad i _ _ (lvs_n10 hi e)] at h1
    show va_at G.1 vwCl (ad i, pc_ G ad i (M2.1 i) M2.2) H
    rw [hM i hi e, hw]
    exact h1
