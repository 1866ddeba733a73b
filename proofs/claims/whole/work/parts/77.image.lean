/-! image, restore -/
def cpO (f src : Nat → Int32) (o k : Nat) : Nat → Int32 := fun j => if o ≤ j ∧ j < o + k then src (j - o) else f j
theorem cpO_0 (f src : Nat → Int32) (o : Nat) : cpO f src o 0 = f := by
  funext j
  unfold cpO
  rw [if_neg (by omega)]
theorem cpO_s (f src : Nat → Int32) (o k : Nat) : upd (cpO f src o k) (o + k) (src k) = cpO f src o (k + 1) := by
  funext j
  unfold upd cpO
  by_cases e : j = o + k
  · rw [if_pos e, if_pos (by omega), e, show o + k - o = k by omega]
  · rw [if_neg e]
    by_cases h : o ≤ j ∧ j < o + k
    · rw [if_pos h, if_pos (by omega)]
    · rw [if_neg h, if_neg (by omega)]
theorem cpO_in {f src : Nat → Int32} {o k j : Nat} (h : j < k) : cpO f src o k (o + j) = src j := by
  unfold cpO
  rw [if_pos (by omega), show o + j - o = j by omega]
theorem cpO_out {f src : Nat → Int32} {o k j : Nat} (h : j < o ∨ o + k ≤ j) : cpO f src o k j = f j := by
  unfold cpO
  rw [if_neg (by omega)]
theorem c8_isImage {n : Nat} (h : n < 2) {Q : Int32 → Mem → Prop} {M : Mem} (hQ : Q 1 M) : w_X8_isImage (nI n) Q M := by
  unfold w_X8_isImage
  rw [if_neg (nI_nn (by omega)), if_neg (by rw [nI_lel (by omega) (by omega)]; omega)]
  exact hQ
theorem c8_isImage0 {a : Int32} (h : a < 0 ∨ nI 2 ≤ a) {Q : Int32 → Mem → Prop} {M : Mem} (hQ : Q 0 M) : w_X8_isImage a Q M := by
  unfold w_X8_isImage
  by_cases h0 : a < 0
  · rw [if_pos h0]; exact hQ
  · rw [if_neg h0, if_pos (show (2 : Int32) ≤ a from h.resolve_left h0)]; exact hQ
/-- restore of the reference -/
theorem c9_restore {n : Nat} (hn : n < 2) {M : Mem} {Q : Int32 → Mem → Prop} (hQ : ∀ M2, onl M M2 [30, 31, 32] → (∀ j, j < 192 → M2.1 (30, 0, 0, 0) j = img (M.1 (45, 0, 0, 0)) (500 * n) j) → (∀ j, j < 288 → M2.1 (32, 0, 0, 0) j = img (M.1 (45, 0, 0, 0)) (500 * n + 192) j) → (∀ b, b < 6 → M2.1 (31, 0, 0, 0) b = M.1 (45, 0, 0, 0) (500 * n + 480 + b)) → Q 1 M2) : ∃ k0, w_X9_restore_32 (nI n) Q k0 (nI (500 * n)) 0 M := by
  obtain ⟨f, hf⟩ : ∃ f, M.1 (45, 0, 0, 0) = f := ⟨_, rfl⟩
  have l94 : ∀ M0, onl M M0 [30, 31, 32] → (∀ j, j < 192 → M0.1 (30, 0, 0, 0) j = img f (500 * n) j) → (∀ j, j < 288 → M0.1 (32, 0, 0, 0) j = img f (500 * n + 192) j) → ∀ m b, b + m = 6 → w_X9_restore_94 (nI n) Q (m + 1) (nI (500 * n)) (nI b) (mr M0 (31, 0, 0, 0) (cpO (M0.1 (31, 0, 0, 0)) (img f (500 * n + 480)) 0 b)) := by
    intro M0 f0 h30 h32 m
    induction m with
    | zero =>
      intro b hb
      have : b = 6 := by omega
      subst this
      rw [w_X9_restore_94, if_pos (by decide)]
      refine hQ _ (f0.tr (onl.mr _ (by simp))) (fun j hj => ?_) (fun j hj => ?_) (fun b hb => ?_)
      · rw [mr_ne _ _ (by simp), hf]; exact h30 j hj
      · rw [mr_ne _ _ (by simp), hf]; exact h32 j hj
      · rw [mr_at, hf]
        have := cpO_in (f := M0.1 (31, 0, 0, 0)) (src := img f (500 * n + 480)) (o := 0) hb
        rw [Nat.zero_add] at this
        rw [this]
        rfl
    | succ m ih =>
      intro b hb
      have e45 : (mr M0 (31, 0, 0, 0) (cpO (M0.1 (31, 0, 0, 0)) (img f (500 * n + 480)) 0 b)).1 (45, 0, 0, 0) = f := by rw [mr_ne _ _ (by simp), f0.1 _ (by simp)]; exact hf
      rw [w_X9_restore_94, if_neg (by rw [nI_lel (by omega) (by omega)]; omega), e45, show nI (500 * n) + 480 = nI (500 * n + 480) from nI_al _ _, nI_add, nI_clamp (n := b) (by omega), nI_clamp (n := 500 * n + 480 + b) (by omega), nI_1, mu_mr]
      refine ⟨vpT (by omega) (by omega), vpT (by omega) (by omega), ?_⟩
      have := cpO_s (M0.1 (31, 0, 0, 0)) (img f (500 * n + 480)) 0 b
      rw [Nat.zero_add] at this
      rw [show f (500 * n + 480 + b) = img f (500 * n + 480) b from rfl, this]
      exact ih (b + 1) (by omega)
  have l61 : ∀ M0, onl M M0 [30, 31, 32] → (∀ j, j < 192 → M0.1 (30, 0, 0, 0) j = img f (500 * n) j) → ∀ m k, k + m = 288 → w_X9_restore_61 (nI n) Q (m + 1) (nI (500 * n)) (nI k) (mr M0 (32, 0, 0, 0) (cpO (M0.1 (32, 0, 0, 0)) (img f (500 * n + 192)) 0 k)) := by
    intro M0 f0 h30 m
    induction m with
    | zero =>
      intro k hk
      have : k = 288 := by omega
      subst this
      rw [w_X9_restore_61, if_pos (by decide)]
      have h := l94 (mr M0 (32, 0, 0, 0) (cpO (M0.1 (32, 0, 0, 0)) (img f (500 * n + 192)) 0 288)) (f0.tr (onl.mr _ (by simp))) (fun j hj => by rw [mr_ne _ _ (by simp)]; exact h30 j hj) (fun j hj => by
        rw [mr_at]
        have := cpO_in (f := M0.1 (32, 0, 0, 0)) (src := img f (500 * n + 192)) (o := 0) hj
        rw [Nat.zero_add] at this
        exact this) 6 0 rfl
      rw [cpO_0, mr_self] at h
      exact ⟨7, h⟩
    | succ m ih =>
      intro k hk
      have e45 : (mr M0 (32, 0, 0, 0) (cpO (M0.1 (32, 0, 0, 0)) (img f (500 * n + 192)) 0 k)).1 (45, 0, 0, 0) = f := by rw [mr_ne _ _ (by simp), f0.1 _ (by simp)]; exact hf
      rw [w_X9_restore_61, if_neg (by rw [nI_lel (by omega) (by omega)]; omega), e45, show nI (500 * n) + 192 = nI (500 * n + 192) from nI_al _ _, nI_add, nI_clamp (n := k) (by omega), nI_clamp (n := 500 * n + 192 + k) (by omega), nI_1, mu_mr]
      refine ⟨vpT (by omega) (by omega), vpT (by omega) (by omega), ?_⟩
      have := cpO_s (M0.1 (32, 0, 0, 0)) (img f (500 * n + 192)) 0 k
      rw [Nat.zero_add] at this
      rw [show f (500 * n + 192 + k) = img f (500 * n + 192) k from rfl, this]
      exact ih (k + 1) (by omega)
  have l32 : ∀ m k, k + m = 192 → w_X9_restore_32 (nI n) Q (m + 1) (nI (500 * n)) (nI k) (mr M (30, 0, 0, 0) (cpO (M.1 (30, 0, 0, 0)) (img f (500 * n)) 0 k)) := by
    intro m
    induction m with
    | zero =>
      intro k hk
      have : k = 192 := by omega
      subst this
      rw [w_X9_restore_32, if_pos (by decide)]
      have h := l61 (mr M (30, 0, 0, 0) (cpO (M.1 (30, 0, 0, 0)) (img f (500 * n)) 0 192)) (onl.mr _ (by simp)) (fun j hj => by
        rw [mr_at]
        have := cpO_in (f := M.1 (30, 0, 0, 0)) (src := img f (500 * n)) (o := 0) hj
        rw [Nat.zero_add] at this
        exact this) 288 0 rfl
      rw [cpO_0, mr_self] at h
      exact ⟨289, h⟩
    | succ m ih =>
      intro k hk
      have e45 : (mr M (30, 0, 0, 0) (cpO (M.1 (30, 0, 0, 0)) (img f (500 * n)) 0 k)).1 (45, 0, 0, 0) = f := by rw [mr_ne _ _ (by simp)]; exact hf
      rw [w_X9_restore_32, if_neg (by rw [nI_lel (by omega) (by omega)]; omega), e45, nI_add, nI_clamp (n := k) (by omega), nI_clamp (n := 500 * n + k) (by omega), nI_1, mu_mr]
      refine ⟨vpT (by omega) (by omega), vpT (by omega) (by omega), ?_⟩
      have := cpO_s (M.1 (30, 0, 0, 0)) (img f (500 * n)) 0 k
      rw [Nat.zero_add] at this
      rw [show f (500 * n + k) = img f (500 * n) k from rfl, this]
      exact ih (k + 1) (by omega)
  have h := l32 192 0 rfl
  rw [cpO_0, mr_self] at h
  exact ⟨193, h⟩
theorem o_restore {a1 : Int32} {M : Mem} (hR : Rel M) {Q : Int32 → Mem → Prop} (hQ : ∀ r M1, OPK (w_X9_restore a1) M r M1 → Q r M1) : w_X8_restore a1 Q M := by
  have hR0 := hR
  obtain ⟨hS, hI, hq⟩ := hR
  unfold w_X8_restore
  rcases xn a1 (n := 2) (by omega) with h | ⟨n, hn, rfl⟩
  · refine c8_isImage0 h ?_
    rw [if_pos rfl]
    refine hQ _ _ (OPK.same hR0 fun Q q => c9_in0 (h.imp id (lt_of_le_s (by decide))) ?_)
    rw [if_pos rfl]
    exact q
  have pre : ∀ {Q : Int32 → Mem → Prop} {M1 : Mem}, (vp_in (nI n) 2 ∧ (if (M1.1 (46, 0, 0, 0) n) = 0 then (Q (-3 : Int32) M1) else (∃ k0 : Nat, w_X9_restore_32 (nI n) Q k0 (nI (500 * n)) (0 : Int32) M1))) → w_X9_restore (nI n) Q M1 := by
    intro Q M1 h
    refine c9_in1 (nI_nn (by omega)) (by rw [nI_ltl (by omega) (by omega)]; omega) ?_
    rw [if_neg (by decide), nI_clamp (by omega)]
    refine ⟨h.1, ?_⟩
    by_cases z : M1.1 (46, 0, 0, 0) n = 0
    · have h := h.2
      rw [if_pos z] at h ⊢; exact h
    · have h := h.2
      rw [if_neg z] at h ⊢
      intro x ex
      rw [nI_ml] at ex
      rw [ex]
      exact h
  refine c8_isImage hn ?_
  rw [if_neg (by decide), nI_clamp (by omega)]
  refine ⟨vpT (by omega) (by omega), ?_⟩
  by_cases z : M.1 (10, 0, 0, 0) n = 0
  · rw [if_pos z]
    refine hQ _ _ (OPK.same hR0 fun Q q => pre ⟨vpT (by omega) (by omega), ?_⟩)
    rw [if_pos ((hI n hn).1.mp z)]
    exact q
  rw [if_neg z]
  refine ⟨vpT (by omega) (by omega), z, z, ?_⟩
  obtain ⟨mn, hm⟩ := (hI n hn).2 z
  refine c5_copyFrom (s := 0) (s1 := n + 1) (by omega) (fun b hb => (hm b hb).2.1) (fun M1 f1 hB1 => hQ _ _ ⟨f1.1 _ (by simp), fun Q q => pre ⟨vpT (by omega) (by omega), ?_⟩⟩)
  have e46 : M1.1 (46, 0, 0, 0) = M.1 (46, 0, 0, 0) := f1.1 _ (by simp)
  have e45 : M1.1 (45, 0, 0, 0) = M.1 (45, 0, 0, 0) := f1.1 _ (by simp)
  rw [e46, if_neg (fun y => z ((hI n hn).1.mpr y))]
  refine c9_restore hn (fun M2 f2 h30 h32 h31 => ?_)
  rw [e45] at h30 h32 h31
  refine q M2 (f2.1 _ (by simp)) ⟨⟨mn, fun b hb => ?_⟩, hI.kp (fun i hi h1 => ?_) (fun i hi => ?_), hq.kp (fun i h1 h2 => ?_) (fun i hi => ?_)⟩
  · obtain ⟨k1, k2, k3⟩ := hm b hb
    have hm8 := k2.2.1
    refine ⟨by rw [h31 b hb]; exact k1, ?_, ?_⟩
    · refine RB.row ((hB1 b hb).kp (fun i hi _ => f2.1 i ?_)) (fun j hj => h30 _ (by omega)) (fun j hj => h32 _ (by omega))
      unfold inS at hi
      simp
      omega
    · exact k3.row (fun j hj => h30 _ (by omega)) (fun j hj => h32 _ (by omega))
  · unfold inS at hi
    rw [f2.1 i (by simp; omega), f1.1 i (by omega)]
  · rw [f2.1 i (by simp; omega), f1.1 i (by omega)]
  · rw [f2.1 i (by simp; omega), f1.1 i (by omega)]
  · rw [f2.1 i (by simp; omega), f1.1 i (by omega)]
def im3 (f rr kn mny : Nat → Int32) (n : Nat) : Nat → Int32 := cpO (cpO (cpO f rr (500 * n) 192) kn (500 * n + 192) 288) mny (500 * n + 480) 6
/-- image of the reference -/
theorem c9_image {n : Nat} (hn : n < 2) {M : Mem} {Q : Int32 → Mem → Prop} (hQ : Q 1 (mu (mr M (45, 0, 0, 0) (im3 (M.1 (45, 0, 0, 0)) (M.1 (30, 0, 0, 0)) (M.1 (32, 0, 0, 0)) (M.1 (31, 0, 0, 0)) n)) (46, 0, 0, 0) n 1)) : ∃ k0, w_X9_image_20 (nI n) Q k0 (nI (500 * n)) 0 M := by
  have l82 : ∀ F, im3 (M.1 (45, 0, 0, 0)) (M.1 (30, 0, 0, 0)) (M.1 (32, 0, 0, 0)) (M.1 (31, 0, 0, 0)) n = cpO F (M.1 (31, 0, 0, 0)) (500 * n + 480) 6 → ∀ m b, b + m = 6 → w_X9_image_82 (nI n) Q (m + 1) (nI (500 * n)) (nI b) (mr M (45, 0, 0, 0) (cpO F (M.1 (31, 0, 0, 0)) (500 * n + 480) b)) := by
    intro F hF m
    induction m with
    | zero =>
      intro b hb
      have : b = 6 := by omega
      subst this
      rw [w_X9_image_82, if_pos (by decide), nI_clamp (by omega), ← hF, show vp_nar .boolean (1 : Int32) = 1 by decide]
      exact ⟨vpT (by omega) (by omega), hQ⟩
    | succ m ih =>
      intro b hb
      rw [w_X9_image_82, if_neg (by rw [nI_lel (by omega) (by omega)]; omega), show nI (500 * n) + 480 = nI (500 * n + 480) from nI_al _ _, nI_add, nI_clamp (n := b) (by omega), nI_clamp (n := 500 * n + 480 + b) (by omega), nI_1, mu_mr, mr_ne _ _ (by simp), cpO_s]
      exact ⟨vpT (by omega) (by omega), vpT (by omega) (by omega), ih (b + 1) (by omega)⟩
  have l49 : ∀ F, F = cpO (M.1 (45, 0, 0, 0)) (M.1 (30, 0, 0, 0)) (500 * n) 192 → ∀ m k, k + m = 288 → w_X9_image_49 (nI n) Q (m + 1) (nI (500 * n)) (nI k) (mr M (45, 0, 0, 0) (cpO F (M.1 (32, 0, 0, 0)) (500 * n + 192) k)) := by
    intro F hF m
    induction m with
    | zero =>
      intro k hk
      have : k = 288 := by omega
      subst this
      rw [w_X9_image_49, if_pos (by decide)]
      have h := l82 (cpO F (M.1 (32, 0, 0, 0)) (500 * n + 192) 288) (by rw [hF]; rfl) 6 0 rfl
      rw [cpO_0] at h
      exact ⟨7, h⟩
    | succ m ih =>
      intro k hk
      rw [w_X9_image_49, if_neg (by rw [nI_lel (by omega) (by omega)]; omega), show nI (500 * n) + 192 = nI (500 * n + 192) from nI_al _ _, nI_add, nI_clamp (n := k) (by omega), nI_clamp (n := 500 * n + 192 + k) (by omega), nI_1, mu_mr, mr_ne _ _ (by simp), cpO_s]
      exact ⟨vpT (by omega) (by omega), vpT (by omega) (by omega), ih (k + 1) (by omega)⟩
  have l20 : ∀ m k, k + m = 192 → w_X9_image_20 (nI n) Q (m + 1) (nI (500 * n)) (nI k) (mr M (45, 0, 0, 0) (cpO (M.1 (45, 0, 0, 0)) (M.1 (30, 0, 0, 0)) (500 * n) k)) := by
    intro m
    induction m with
    | zero =>
      intro k hk
      have : k = 192 := by omega
      subst this
      rw [w_X9_image_20, if_pos (by decide)]
      have h := l49 _ rfl 288 0 rfl
      rw [cpO_0] at h
      exact ⟨289, h⟩
    | succ m ih =>
      intro k hk
      rw [w_X9_image_20, if_neg (by rw [nI_lel (by omega) (by omega)]; omega), nI_add, nI_clamp (n := k) (by omega), nI_clamp (n := 500 * n + k) (by omega), nI_1, mu_mr, mr_ne _ _ (by simp), cpO_s]
      exact ⟨vpT (by omega) (by omega), vpT (by omega) (by omega), ih (k + 1) (by omega)⟩
  have h := l20 192 0 rfl
  rw [cpO_0, mr_self] at h
  exact ⟨193, h⟩
theorem im3_r {f rr kn mny : Nat → Int32} {n j : Nat} (h : j < 192) : im3 f rr kn mny n (500 * n + j) = rr j := by
  unfold im3
  rw [cpO_out (by omega), cpO_out (by omega), cpO_in h]
theorem im3_k {f rr kn mny : Nat → Int32} {n j : Nat} (h : j < 288) : im3 f rr kn mny n (500 * n + 192 + j) = kn j := by
  unfold im3
  rw [cpO_out (by omega), cpO_in h]
theorem im3_m {f rr kn mny : Nat → Int32} {n j : Nat} (h : j < 6) : im3 f rr kn mny n (500 * n + 480 + j) = mny j := by
  unfold im3
  rw [cpO_in h]
theorem im3_o {f rr kn mny : Nat → Int32} {n n2 j : Nat} (h : n2 ≠ n) (hj : j < 486) : im3 f rr kn mny n (500 * n2 + j) = f (500 * n2 + j) := by
  unfold im3
  rw [cpO_out (by omega), cpO_out (by omega), cpO_out (by omega)]
def OPJ (w9 : (Int32 → Mem → Prop) → Mem → Prop) (r : Int32) (M1 : Mem) : Prop := ∀ Q : Int32 → Mem → Prop, (∀ M2, M2.1 (10, 0, 0, 0) = M1.1 (10, 0, 0, 0) → Rel M2 → Q r M2) → w9 Q M1
theorem o_image {a1 : Int32} {M : Mem} (hR : Rel M) {Q : Int32 → Mem → Prop} (hQ : ∀ r M1, OPJ (w_X9_image a1) r M1 → Q r M1) : w_X8_image a1 Q M := by
  have hR0 := hR
  obtain ⟨⟨mn, hS⟩, hI, hq⟩ := hR
  unfold w_X8_image
  rcases xn a1 (n := 2) (by omega) with h | ⟨n, hn, rfl⟩
  · refine c8_isImage0 h ⟨rfl, ?_⟩
    rw [if_pos rfl]
    refine hQ _ _ (fun Q q => c9_in0 (h.imp id (lt_of_le_s (by decide))) ?_)
    rw [if_pos rfl]
    exact q M rfl hR0
  refine c8_isImage hn ⟨rfl, ?_⟩
  rw [if_neg (by decide), nI_clamp (by omega)]
  refine ⟨vpT (by omega) (by omega), ?_⟩
  have pre : ∀ {Q : Int32 → Mem → Prop} {M1 : Mem}, (∃ k0 : Nat, w_X9_image_20 (nI n) Q k0 (nI (500 * n)) (0 : Int32) M1) → w_X9_image (nI n) Q M1 := by
    intro Q M1 h
    refine c9_in1 (nI_nn (by omega)) (by rw [nI_ltl (by omega) (by omega)]; omega) ?_
    rw [if_neg (by decide)]
    intro x ex
    rw [nI_ml] at ex
    rw [ex]
    exact h
  -- the rest, from a memory that differs from M in the store n + 1 and in the images alone
  have go : ∀ M', (∀ i : ix, ¬ ((1 ≤ i.1 ∧ i.1 ≤ 9) ∧ i.2.1 = n + 1) → i ≠ (10, 0, 0, 0) → M'.1 i = M.1 i) → ¬ M'.1 (10, 0, 0, 0) n = 0 → (∀ k, k ≠ n → M'.1 (10, 0, 0, 0) k = M.1 (10, 0, 0, 0) k) → ∀ M1, frS M' M1 (n + 1) → (∀ b, b < 6 → RB M1 (n + 1) b (M.1 (30, 0, 0, 0)) (M.1 (32, 0, 0, 0)) (mn b)) → Q 1 M1 := by
    intro M' hM' hz ho M1 f1 hB1
    have hk : ∀ i : ix, ¬ ((1 ≤ i.1 ∧ i.1 ≤ 9) ∧ i.2.1 = n + 1) → i ≠ (10, 0, 0, 0) → M1.1 i = M.1 i := fun i h1 h2 => by rw [f1.1 i h1]; exact hM' i h1 h2
    have e10 : M1.1 (10, 0, 0, 0) = M'.1 (10, 0, 0, 0) := f1.1 _ (by simp)
    refine hQ _ _ (fun Q q => pre (c9_image hn ?_))
    obtain ⟨M2, hM2⟩ : ∃ M2, M2 = mu (mr M1 (45, 0, 0, 0) (im3 (M1.1 (45, 0, 0, 0)) (M1.1 (30, 0, 0, 0)) (M1.1 (32, 0, 0, 0)) (M1.1 (31, 0, 0, 0)) n)) (46, 0, 0, 0) n 1 := ⟨_, rfl⟩
    rw [← hM2]
    have k2 : ∀ i : ix, i.1 ≠ 45 → i.1 ≠ 46 → M2.1 i = M1.1 i := fun i h1 h2 => by
      rw [hM2, mu_ne _ _ _ (fun e => h2 (by rw [e])), mr_ne _ _ (fun e => h1 (by rw [e]))]
    have e30 : M1.1 (30, 0, 0, 0) = M.1 (30, 0, 0, 0) := hk _ (by simp) (by simp)
    have e31 : M1.1 (31, 0, 0, 0) = M.1 (31, 0, 0, 0) := hk _ (by simp) (by simp)
    have e32 : M1.1 (32, 0, 0, 0) = M.1 (32, 0, 0, 0) := hk _ (by simp) (by simp)
    have e45 : M1.1 (45, 0, 0, 0) = M.1 (45, 0, 0, 0) := hk _ (by simp) (by simp)
    have e46 : M1.1 (46, 0, 0, 0) = M.1 (46, 0, 0, 0) := hk _ (by simp) (by simp)
    have m45 : M2.1 (45, 0, 0, 0) = im3 (M.1 (45, 0, 0, 0)) (M.1 (30, 0, 0, 0)) (M.1 (32, 0, 0, 0)) (M.1 (31, 0, 0, 0)) n := by
      rw [hM2, mu_ne _ _ _ (by simp), mr_at, e30, e31, e32, e45]
    have m46 : M2.1 (46, 0, 0, 0) = upd (M.1 (46, 0, 0, 0)) n 1 := by rw [hM2, mu_row, mr_ne _ _ (by simp), e46]
    have m10 : M2.1 (10, 0, 0, 0) = M'.1 (10, 0, 0, 0) := by rw [k2 _ (by simp) (by simp), e10]
    refine q M2 (k2 _ (by simp) (by simp)) ⟨⟨mn, fun b hb => ?_⟩, fun k hk2 => ?_, hq.kp (fun i h1 h2 => ?_) (fun i hi => ?_)⟩
    · obtain ⟨u1, u2, u3⟩ := hS b hb
      have z30 : M2.1 (30, 0, 0, 0) = M.1 (30, 0, 0, 0) := by rw [k2 _ (by simp) (by simp)]; exact e30
      have z31 : M2.1 (31, 0, 0, 0) = M.1 (31, 0, 0, 0) := by rw [k2 _ (by simp) (by simp)]; exact e31
      have z32 : M2.1 (32, 0, 0, 0) = M.1 (32, 0, 0, 0) := by rw [k2 _ (by simp) (by simp)]; exact e32
      rw [z30, z31, z32]
      refine ⟨u1, u2.kp (fun i hi h0 => ?_), u3⟩
      unfold inS at hi
      rw [k2 i (by omega) (by omega), hk i (by omega) (fun e => by rw [e] at hi; simp at hi)]
    · rw [m10, m45, m46]
      by_cases ek : k = n
      · subst ek
        rw [upd_at]
        refine ⟨⟨fun h => absurd h hz, fun h => absurd h (by decide)⟩, fun _ => ⟨mn, fun b hb => ?_⟩⟩
        obtain ⟨u1, u2, u3⟩ := hS b hb
        have hm8 := u2.2.1
        refine ⟨by rw [im3_m hb]; exact u1, ?_, ?_⟩
        · refine RB.row ((hB1 b hb).kp (fun i hi _ => k2 i ?_ ?_)) (fun j hj => im3_r (by omega)) (fun j hj => im3_k (by omega))
          · unfold inS at hi; omega
          · unfold inS at hi; omega
        · exact u3.row (fun j hj => im3_r (by omega)) (fun j hj => im3_k (by omega))
      · rw [ho k ek, upd_ne _ _ ek]
        refine ⟨(hI k hk2).1, fun h => ?_⟩
        obtain ⟨mn2, hm2⟩ := (hI k hk2).2 h
        refine ⟨mn2, fun b hb => ?_⟩
        obtain ⟨u1, u2, u3⟩ := hm2 b hb
        have hm8 := u2.2.1
        refine ⟨?_, ?_, ?_⟩
        · rw [show 500 * k + 480 + b = 500 * k + (480 + b) by omega, im3_o ek (by omega), show 500 * k + (480 + b) = 500 * k + 480 + b by omega]
          exact u1
        · refine RB.row (u2.kp (fun i hi h0 => ?_)) (fun j hj => ?_) (fun j hj => ?_)
          · unfold inS at hi
            rw [k2 i (by omega) (by omega), hk i (by omega) (fun e => by rw [e] at hi; simp at hi)]
          · exact im3_o ek (by omega)
          · show im3 _ _ _ _ n (500 * k + 192 + (48 * b + j)) = M.1 (45, 0, 0, 0) (500 * k + 192 + (48 * b + j))
            rw [show 500 * k + 192 + (48 * b + j) = 500 * k + (192 + (48 * b + j)) by omega]
            exact im3_o ek (by omega)
        · refine u3.row (fun j hj => ?_) (fun j hj => ?_)
          · exact im3_o ek (by omega)
          · show im3 _ _ _ _ n (500 * k + 192 + (48 * b + j)) = M.1 (45, 0, 0, 0) (500 * k + 192 + (48 * b + j))
            rw [show 500 * k + 192 + (48 * b + j) = 500 * k + (192 + (48 * b + j)) by omega]
            exact im3_o ek (by omega)
    · rw [k2 i (by omega) (by omega), hk i (by omega) (fun e => by rw [e] at h1; simp at h1)]
    · rw [k2 i (by omega) (by omega), hk i (by omega) (fun e => by rw [e] at hi; simp at hi)]
  by_cases z : M.1 (10, 0, 0, 0) n = 0
  · rw [if_pos z]
    obtain ⟨M', hM'⟩ : ∃ M', M' = mr (jM (jT (n + 1)) M) (10, 0, 0, 0) (upd (M.1 (10, 0, 0, 0)) n 1) := ⟨_, rfl⟩
    rw [← hM']
    have kM : ∀ i : ix, ¬ ((1 ≤ i.1 ∧ i.1 ≤ 9) ∧ i.2.1 = n + 1) → i ≠ (10, 0, 0, 0) → M'.1 i = M.1 i := fun i h1 h2 => by
      rw [hM', mr_ne _ _ h2, jM_ne (fun h => h1 ⟨⟨(jT_r h).1, (jT_r h).2.1⟩, (jT_r h).2.2⟩)]
    have k10 : M'.1 (10, 0, 0, 0) = upd (M.1 (10, 0, 0, 0)) n 1 := by rw [hM', mr_at]
    refine c5_copyFrom (s := n + 1) (s1 := 0) (by omega) (rr := M.1 (30, 0, 0, 0)) (kn := M.1 (32, 0, 0, 0)) (mn := mn) (fun b hb => (hS b hb).2.1.kp (fun i hi h0 => ?_)) (fun M1 f1 hB1 => ⟨by rw [f1.1 _ (by simp)]; exact k10, go M' kM (by rw [k10, upd_at]; decide) (fun k hk => by rw [k10, upd_ne _ _ hk]) M1 f1 hB1⟩)
    unfold inS at hi
    exact kM i (by omega) (fun e => by rw [e] at hi; simp at hi)
  · rw [if_neg z]
    refine c5_copyFrom (s := n + 1) (s1 := 0) (by omega) (rr := M.1 (30, 0, 0, 0)) (kn := M.1 (32, 0, 0, 0)) (mn := mn) (fun b hb => (hS b hb).2.1) (fun M1 f1 hB1 => ⟨f1.1 _ (by simp), go M (fun _ _ _ => rfl) z (fun _ _ => rfl) M1 f1 hB1⟩)
