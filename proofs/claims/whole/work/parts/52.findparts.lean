/-! the loop of findParts -/
theorem knd_2 {r : Nat} {s : Int32} (h : knd r s = 2) : isD s := by
  unfold knd trK tmK at h
  repeat' split at h
  all_goals first | assumption | omega
def dn (p : Nat) : Int32 := nI p + (-1)
theorem dn_s (q : Nat) : dn (q + 1) = nI q := pk_m1 q
theorem dn_0 : dn 0 < 0 := by decide
theorem dn_of (n : Nat) : nI n - 1 = dn n := by
  cases n with
  | zero => decide
  | succ n => rw [dn_s]; exact nI_pred n
def setE (E : Nat → Nat) (q e : Nat) : Nat → Nat := fun j => if j = q then e else E j
theorem setE_ne (E : Nat → Nat) {q e j : Nat} (h : j ≠ q) : setE E q e j = E j := if_neg h
theorem setE_at (E : Nat → Nat) (q e : Nat) : setE E q e q = e := if_pos rfl
theorem PK_step {g : Nat → Int32} {n q : Nat} {E : Nat → Nat} {M M3 : Mem} {r30 r41 v : Int32} (hn : stk g n = some []) (hq : q < n) (h : ∀ k, q + 1 ≤ k → k < n → PK g n M E k) (e14 : M3.1 (14, 0, 0, 0) = upd (M.1 (14, 0, 0, 0)) q r30) (e15 : M3.1 (15, 0, 0, 0) = upd (M.1 (15, 0, 0, 0)) q r41) (e16 : M3.1 (16, 0, 0, 0) = upd (M.1 (16, 0, 0, 0)) q v) {r : Nat} {T : List Nat} (hs : stk g q = some (r :: T)) (hv : v = nI (eqE E q (knd r (g q)))) (h30 : q + 1 < n → r30 = nI (E (q + 1))) (hnum : numOK r41 g E q (knd r (g q))) : ∀ k, q ≤ k → k < n → PK g n M3 (setE E q (eqE E q (knd r (g q)))) k := by
  intro k hk hkn
  have hbas : ∀ k, q + 1 ≤ k → k < n → bas g n E k := fun k h1 h2 => (h k h1 h2).bas
  have hgt : ∀ j, k < j → setE E q (eqE E q (knd r (g q))) j = E j := fun j hj => setE_ne E (by omega)
  have hcon : ∀ c, (1 ≤ (psh c).length → k + 1 < n) → eqE (setE E q (eqE E q (knd r (g q)))) k c = eqE E k c := fun c hc => by
    refine eqE_congr (n := n) hgt ?_
    rcases Nat.lt_or_ge (psh c).length 1 with z | z
    · exact Or.inr (by omega)
    · exact Or.inl (by obtain ⟨r2, T2, -, a, -⟩ := hbas (k + 1) (by omega) (hc z); exact a)
  by_cases e : k = q
  · subst e
    obtain ⟨r2, T2, s1, s2, s3, s4, -⟩ := stepE hn hq hbas
    rw [hs] at s1
    cases s1
    refine ⟨r, T, hs, ?_, ?_, ?_, ?_, ?_, fun hk1 => ?_, ?_⟩
    · rw [setE_at]; exact s3.1
    · rw [setE_at]; exact s3.2.1
    · rw [setE_at]; exact s3.2.2
    · rw [setE_at, hcon _ s4]
    · rw [setE_at, e16, upd_at]; exact hv
    · rw [hgt _ (by omega), e14, upd_at]; exact h30 hk1
    · rw [e15, upd_at]
      unfold numOK at hnum ⊢
      rw [hgt _ (by omega)]
      exact hnum
  · obtain ⟨r2, T2, s1, s2, s3, s4, s5, s6, s7, s8⟩ := h k (by omega) hkn
    obtain ⟨r3, T3, u1, u2, u3, u4, -⟩ := stepE hn hkn (fun j h1 h2 => hbas j (by omega) h2)
    rw [s1] at u1
    cases u1
    refine ⟨r2, T2, s1, ?_, ?_, ?_, ?_, ?_, fun hk1 => ?_, ?_⟩
    · rw [setE_ne E e]; exact s2
    · rw [setE_ne E e]; exact s3
    · rw [setE_ne E e]; exact s4
    · rw [setE_ne E e, hcon _ u4]; exact s5
    · rw [setE_ne E e, e16, upd_ne _ _ e]; exact s6
    · rw [hgt _ (by omega), e14, upd_ne _ _ e]; exact s7 hk1
    · rw [e15, upd_ne _ _ e]
      unfold numOK at s8 ⊢
      rw [hgt _ (by omega)]
      exact s8
theorem c1_findParts_7 {g : Nat → Int32} {n : Nat} (hn : stk g n = some []) (hn60 : n ≤ 60) (hsg : ∀ i, i < n → ∃ m, 33 ≤ m ∧ m < 127 ∧ g i = nI m) {Q : Mem → Prop} {M0 : Mem} (h12 : M0.1 (12, 0, 0, 0) = g) (hQ : ∀ M1, onl M0 M1 [14, 15, 16] → QOK M1 g n → Q M1) : ∀ p x M E, x = dn p → p ≤ n → onl M0 M [14, 15, 16] → (∀ k, p ≤ k → k < n → PK g n M E k) → w_X1_findParts_7 Q (p + 1) x M := by
  intro p
  induction p with
  | zero =>
    intro x M E hx hp hf hE
    rw [w_X1_findParts_7, hx, if_pos dn_0]
    refine hQ M hf ⟨E, fun k hk => ?_, fun k hk => ?_⟩
    · obtain ⟨r2, T2, s1, s2, s3, s4, s5, s6, s7, s8⟩ := hE k (by omega) hk
      exact ⟨r2, T2, s1, s2, s3, s4, s5⟩
    · obtain ⟨r2, T2, s1, s2, s3, s4, s5, s6, s7, s8⟩ := hE k (by omega) hk
      refine ⟨s6, s7, fun r T e => ?_⟩
      rw [s1] at e
      cases e
      exact s8
  | succ q ih =>
    intro x M E hx hp hf hE
    have hbas : ∀ k, q + 1 ≤ k → k < n → bas g n E k := fun k h1 h2 => (hE k h1 h2).bas
    obtain ⟨r, T, s1, s2, s3, s4, s5, s6, s7⟩ := stepE hn (by omega : q < n) hbas
    have hr := stk_mem q _ s1 r (by simp)
    obtain ⟨g1, g2, g3, g4⟩ := sg hr (hsg q (by omega)) s2
    have g12 : M.1 (12, 0, 0, 0) = g := by rw [hf.1 _ (by simp)]; exact h12
    have hM16 : ∀ k, q + 1 ≤ k → k < n → M.1 (16, 0, 0, 0) k = nI (E k) := fun k h1 h2 => by
      obtain ⟨r2, T2, _, _, _, _, _, z, _⟩ := hE k h1 h2
      exact z
    rw [dn_s] at hx
    rw [w_X1_findParts_7, hx, if_neg (nI_nn (by omega)), nI_clamp (by omega)]
    obtain ⟨y, hy⟩ : ∃ y, y = nI q + (-1) := ⟨_, rfl⟩
    rw [← hy]
    refine ⟨vpT (by omega) (by omega), fun x2 e2 => ?_⟩
    rw [g12] at e2
    subst e2
    rw [nI_1]
    refine c8_at (by omega) (fun r30 h30 => ⟨vpT (by omega) (by omega), ?_⟩)
    have k30 : q + 1 < n → r30 = nI (E (q + 1)) := fun h => by rw [h30 (q + 1) (by omega) rfl, hM16 _ (by omega) h]
    obtain ⟨M1, hM1⟩ : ∃ M1, M1 = mu M (14, 0, 0, 0) q r30 := ⟨_, rfl⟩
    rw [← hM1]
    have f12 : M1.1 (12, 0, 0, 0) = g := by rw [hM1, mu_ne _ _ _ (by simp)]; exact g12
    have f14 : M1.1 (14, 0, 0, 0) q = r30 := by rw [hM1, mu_row, upd_at]
    refine c1_numberAt (by omega) f12 (fun r41 n1 n2 n3 => ⟨vpT (by omega) (by omega), ?_⟩)
    have hnum : numOK r41 g E q (knd r (g q)) := by
      refine ⟨fun h => ?_, fun h => ?_, fun h => n3 (knd_2 h)⟩
      · obtain ⟨a, d1, d2, d3⟩ := s6 h
        exact n1 (g3.mpr h) (by omega) d1 d2 d3
      · have h2 : (psh (knd r (g q))).length = 2 := by rw [h]; rfl
        obtain ⟨a1, a2⟩ := s5 h2
        exact n2 (g4.mpr h) (E (q + 1)) (by omega) (by rw [f14]; exact k30 (by omega)) (s7 h)
    obtain ⟨M2, hM2⟩ : ∃ M2, M2 = mu M1 (15, 0, 0, 0) q r41 := ⟨_, rfl⟩
    rw [← hM2]
    have f14b : M2.1 (14, 0, 0, 0) q = r30 := by rw [hM2, mu_ne _ _ _ (by simp)]; exact f14
    have f16b : M2.1 (16, 0, 0, 0) = M.1 (16, 0, 0, 0) := by rw [hM2, mu_ne _ _ _ (by simp), hM1, mu_ne _ _ _ (by simp)]
    have fin : ∀ v, v = nI (eqE E q (knd r (g q))) → w_X1_findParts_7 Q (q + 1) y (mu M2 (16, 0, 0, 0) q v) := by
      intro v hv
      refine ih y _ _ hy (by omega) ?_ (PK_step (M := M) (r30 := r30) (r41 := r41) (v := v) hn (by omega) hE ?_ ?_ ?_ s1 hv k30 hnum)
      · rw [hM2, hM1]
        exact ((hf.tr (onl.mr _ (by simp))).tr (onl.mr _ (by simp))).tr (onl.mr _ (by simp))
      · rw [mu_ne _ _ _ (by simp), hM2, mu_ne _ _ _ (by simp), hM1, mu_row]
      · rw [mu_ne _ _ _ (by simp), hM2, mu_row, hM1, mu_ne _ _ _ (by simp)]
      · rw [mu_row, f16b]
    have one : (psh (knd r (g q))).length = 1 → w_X8_at (16, 0, 0, 0) 60 (nI (q + 1)) (fun r110 M110 => vp_in (nI q) 60 ∧ w_X1_findParts_7 Q (q + 1) y (mu M110 (16, 0, 0, 0) q r110)) M2 := by
      intro h1
      refine c8_at (by omega) (fun v hv => ⟨vpT (by omega) (by omega), fin v ?_⟩)
      rw [hv (q + 1) (by have := s4 (by omega); omega) rfl, f16b, hM16 _ (by omega) (s4 (by omega))]
      unfold eqE
      rw [if_neg (fun z => by rw [z] at h1; exact absurd h1 (by decide)), if_neg (by omega), if_pos h1]
    refine c8_hasSecond (fun h => ?_) (fun h => ?_)
    · rw [if_neg (by decide)]
      have h2 := g1.mp h
      obtain ⟨a1, a2⟩ := s5 h2
      refine ⟨vpT (by omega) (by omega), c8_at (by omega) (fun v hv => ⟨vpT (by omega) (by omega), fin v ?_⟩)⟩
      rw [hv (E (q + 1)) (by omega) (by rw [f14b]; exact k30 (by omega)), f16b, hM16 _ (by omega) a2]
      unfold eqE
      rw [if_neg (fun z => by rw [z] at h2; exact absurd h2 (by decide)), if_neg (by omega), if_neg (by omega)]
    · rw [if_pos rfl]
      have h2 : (psh (knd r (g q))).length ≠ 2 := fun z => h (g1.mpr z)
      by_cases t1 : g q = 126
      · rw [if_pos t1]; exact one (g2.mp (Or.inl t1))
      rw [if_neg t1]
      by_cases t2 : g q = 121
      · rw [if_pos t2]; exact one (g2.mp (Or.inr (Or.inl t2)))
      rw [if_neg t2]
      by_cases t3 : g q = 33
      · rw [if_pos t3]; exact one (g2.mp (Or.inr (Or.inr (Or.inl t3))))
      rw [if_neg t3]
      by_cases t4 : g q = 109
      · rw [if_pos t4]; exact one (g2.mp (Or.inr (Or.inr (Or.inr t4))))
      rw [if_neg t4]
      have h1 : (psh (knd r (g q))).length ≠ 1 := fun z => by
        rcases g2.mpr z with z | z | z | z
        · exact t1 z
        · exact t2 z
        · exact t3 z
        · exact t4 z
      by_cases t5 : g q = 35
      · rw [if_pos t5]
        refine ⟨vpT (by omega) (by omega), fin _ ?_⟩
        unfold eqE
        rw [if_pos (g3.mp t5)]
        exact nI_al _ _
      · rw [if_neg t5]
        refine ⟨vpT (by omega) (by omega), fin _ ?_⟩
        have h3 : knd r (g q) ≠ 3 := fun z => t5 (g3.mpr z)
        have := psh_le2 h3
        unfold eqE
        rw [if_neg h3, if_pos (by omega)]
theorem c1_findParts {g : Nat → Int32} {n : Nat} (hn : stk g n = some []) (hn60 : n ≤ 60) (hsg : ∀ i, i < n → ∃ m, 33 ≤ m ∧ m < 127 ∧ g i = nI m) {Q : Mem → Prop} {M : Mem} (h11 : M.1 (11, 0, 0, 0) 0 = nI n) (h12 : M.1 (12, 0, 0, 0) = g) (hQ : ∀ M1, onl M M1 [14, 15, 16] → QOK M1 g n → Q M1) : w_X1_findParts Q M := by
  intro x e
  rw [h11, dn_of] at e
  have h := c1_findParts_7 hn hn60 hsg h12 hQ n x M (fun _ => 0) e (Nat.le_refl n) onl.rf (fun k h1 h2 => absurd h2 (by omega))
  exact ⟨n + 1, h⟩
