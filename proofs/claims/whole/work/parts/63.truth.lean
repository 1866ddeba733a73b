/-! the reference: truths of a row, layRow; truth -/
theorem c9_truthAt {M : Mem} {g : Nat → Int32} {n : Nat} {E : Nat → Nat} (hC : RC M g n E) {q c : Nat} (hq : q < n) (hc : kd g q = c) (h10 : 10 ≤ c) (hx : 12 ≤ c → c ≤ 14 → t012 (M.1 (40, 0, 0, 0) (q + 1))) (hy : 12 ≤ c → c ≤ 13 → t012 (M.1 (40, 0, 0, 0) (E (q + 1)))) {Q : Int32 → Mem → Prop} (hQ : Q (evc g E (M.1 (41, 0, 0, 0)) q c (M.1 (40, 0, 0, 0) (q + 1)) (M.1 (40, 0, 0, 0) (E (q + 1)))) M) : w_X9_truthAt (nI q) Q M := by
  have hle : c ≤ 15 := by rw [← hc]; exact kd_le g q
  have h35 := hC.k35 hq hc (by omega)
  have hCC := hC
  obtain ⟨hn60, -, h29, h34, hn, hs, hsg, hrr⟩ := hC
  have hz : c ≠ 0 := by omega
  obtain ⟨s1, s2, s3, s4, s5, s6⟩ := sh hn hs hq hc hz
  obtain ⟨r1, r2, r3⟩ := hrr.2 q hq (by rw [hc]; exact hz)
  rw [hc] at r2
  have q1 : q + 1 < n := by
    by_cases h : c = 15
    · exact (s6 h).1
    · refine (s1 ?_).1
      have : c = 10 ∨ c = 11 ∨ c = 12 ∨ c = 13 ∨ c = 14 := by omega
      rcases this with h | h | h | h | h <;> subst h <;> decide
  unfold w_X9_truthAt
  rw [nI_clamp (n := q) (by omega), r1, nI_clamp (n := q + 1) (by omega), h35]
  refine ⟨vpT (by omega) (by omega), vpT (by omega) (by omega), fun x ex => ⟨vpT (by omega) (by omega), c9_inner (by omega) hle ?_⟩⟩
  subst ex
  have fin : ∀ y : Int32, (innr c = 2 → y = M.1 (40, 0, 0, 0) (E (q + 1))) → w_X9_truthAt_40 (nI q) Q (M.1 (40, 0, 0, 0) (q + 1)) y M := by
    intro y hyv
    unfold w_X9_truthAt_40
    rw [nI_clamp (n := q) (by omega), h35, h34]
    refine ⟨vpT (by omega) (by omega), ?_⟩
    have h : c = 10 ∨ c = 11 ∨ c = 12 ∨ c = 13 ∨ c = 14 ∨ c = 15 := by omega
    rcases h with h | h | h | h | h | h <;> subst h
    · rw [if_pos (show nI 10 = 10 from rfl)]
      have hyv := hyv (by decide)
      subst hyv
      have hQ : Q (lsO (M.1 (40, 0, 0, 0) (q + 1)) (M.1 (40, 0, 0, 0) (E (q + 1)))) M := hQ
      unfold lsO at hQ
      by_cases x1 : M.1 (40, 0, 0, 0) (q + 1) = -2000000
      · rw [if_pos x1] at hQ ⊢; exact hQ
      rw [if_neg x1] at hQ ⊢
      by_cases x2 : M.1 (40, 0, 0, 0) (E (q + 1)) = -2000000
      · rw [if_pos x2] at hQ ⊢; exact hQ
      rw [if_neg x2] at hQ ⊢
      by_cases x4 : M.1 (40, 0, 0, 0) (E (q + 1)) ≤ M.1 (40, 0, 0, 0) (q + 1)
      · rw [if_pos x4] at hQ ⊢; exact hQ
      · rw [if_neg x4] at hQ ⊢; exact hQ
    · rw [if_neg (show ¬ nI 11 = 10 by decide), if_pos (show nI 11 = 11 from rfl)]
      have hyv := hyv (by decide)
      subst hyv
      have hQ : Q (lkO (M.1 (40, 0, 0, 0) (q + 1)) (M.1 (40, 0, 0, 0) (E (q + 1)))) M := hQ
      unfold lkO at hQ
      by_cases x1 : M.1 (40, 0, 0, 0) (q + 1) = -2000000
      · rw [if_pos x1] at hQ ⊢; exact hQ
      rw [if_neg x1] at hQ ⊢
      by_cases x2 : M.1 (40, 0, 0, 0) (E (q + 1)) = -2000000
      · rw [if_pos x2] at hQ ⊢; exact hQ
      rw [if_neg x2] at hQ ⊢
      by_cases x4 : M.1 (40, 0, 0, 0) (q + 1) = M.1 (40, 0, 0, 0) (E (q + 1))
      · rw [if_pos x4] at hQ ⊢; exact hQ
      · rw [if_neg x4] at hQ ⊢; exact hQ
    · rw [if_neg (show ¬ nI 12 = 10 by decide), if_neg (show ¬ nI 12 = 11 by decide), if_pos (show nI 12 = 12 from rfl)]
      have hyv := hyv (by decide)
      subst hyv
      exact c9_both hQ
    · rw [if_neg (show ¬ nI 13 = 10 by decide), if_neg (show ¬ nI 13 = 11 by decide), if_neg (show ¬ nI 13 = 12 by decide), if_pos (show nI 13 = 13 from rfl)]
      have hyv := hyv (by decide)
      subst hyv
      exact c9_either (hx (by omega) (by omega)) (hy (by omega) (by omega)) hQ
    · rw [if_neg (show ¬ nI 14 = 10 by decide), if_neg (show ¬ nI 14 = 11 by decide), if_neg (show ¬ nI 14 = 12 by decide), if_neg (show ¬ nI 14 = 13 by decide), if_pos (show nI 14 = 14 from rfl)]
      exact c9_not (hx (by omega) (by omega)) hQ
    · rw [if_neg (show ¬ nI 15 = 10 by decide), if_neg (show ¬ nI 15 = 11 by decide), if_neg (show ¬ nI 15 = 12 by decide), if_neg (show ¬ nI 15 = 13 by decide), if_neg (show ¬ nI 15 = 14 by decide), nI_1, nI_clamp (n := q + 1) (by omega)]
      obtain ⟨a1, a2⟩ := s6 rfl
      obtain ⟨j, j1, j2, j3, j4⟩ := isL_ix (hsg (q + 1) a1) a2
      have hQ : Q (misO (tx (M.1 (41, 0, 0, 0)) (g (q + 1)))) M := hQ
      rw [j4] at hQ
      rw [j2, nI_clamp (n := j) (by omega)]
      refine ⟨vpT (by omega) (by omega), vpT (by omega) (by omega), ?_⟩
      unfold misO at hQ
      by_cases x4 : M.1 (41, 0, 0, 0) j = 1000
      · rw [if_pos x4] at hQ ⊢; exact hQ
      · rw [if_neg x4] at hQ ⊢; exact hQ
  by_cases i2 : innr c = 2
  · obtain ⟨b1, b2, b3, b4⟩ := s2 i2
    rw [i2, if_neg (by decide), r2, if_neg (by omega), nI_clamp (n := E (q + 1)) (by omega)]
    exact ⟨vpT (by omega) (by omega), vpT (by omega) (by omega), fin _ (fun _ => rfl)⟩
  · have := innr_2 c
    rw [if_pos (by rw [nI_ler (by omega) (by omega)]; omega)]
    exact fin 0 (fun h => absurd h i2)
theorem c9_isTerm {M : Mem} {g : Nat → Int32} {n : Nat} {E : Nat → Nat} (hC : RC M g n E) {q : Nat} (hq : q < n) {Q : Int32 → Mem → Prop} (h0 : kd g q = 0 → Q 0 M) (h1 : 10 ≤ kd g q → Q 0 M) (h2 : 1 ≤ kd g q → kd g q ≤ 9 → Q 1 M) : w_X9_isTerm (nI q) Q M := by
  have h60 := hC.1
  have hle := kd_le g q
  unfold w_X9_isTerm
  rw [nI_clamp (n := q) (by omega)]
  refine ⟨vpT (by omega) (by omega), ?_⟩
  by_cases z : kd g q = 0
  · have h35 := hC.2.2.2.2.2.2.2.1 q hq
    unfold kdI at h35
    rw [h35, z, nz_0, if_pos rfl]
    exact h0 z
  · rw [hC.k35 hq rfl z, if_neg (nI_neN (by omega))]
    refine ⟨vpT (by omega) (by omega), ?_⟩
    by_cases t : 10 ≤ kd g q
    · rw [if_pos (by rw [nI_lel (by omega) (by omega)]; exact t)]; exact h1 t
    · rw [if_neg (by rw [nI_lel (by omega) (by omega)]; exact t)]; exact h2 (by omega) (by omega)
theorem c9_layRow_7 {g : Nat → Int32} {n : Nat} {E : Nat → Nat} {R : Nat → Int32} {M0 : Mem} (hC : RC M0 g n E) (hR : M0.1 (41, 0, 0, 0) = R) {Q : Mem → Prop} (hQ : ∀ M1, onl M0 M1 [40] → M1.1 (40, 0, 0, 0) 0 = ev g n E R 0 → Q M1) : ∀ p x M, x = dn p → p ≤ n → onl M0 M [40] → (∀ k, p ≤ k → k < n → kd g k ≠ 0 → M.1 (40, 0, 0, 0) k = ev g n E R k) → w_X9_layRow_7 Q (p + 1) x M := by
  intro p
  have hn := hC.2.2.2.2.1
  have hs := hC.2.2.2.2.2.1
  have hn60 := hC.1
  induction p with
  | zero =>
    intro x M hx hp hf hE
    rw [w_X9_layRow_7, hx, if_pos dn_0]
    have h0 : kd g 0 ≠ 0 := kd_nz hn hC.2.1 (show stk g 0 = some [1] from rfl) (by omega)
    exact hQ M hf (hE 0 (by omega) hC.2.1 h0)
  | succ q ih =>
    intro x M hx hp hf hE
    rw [dn_s] at hx
    have hC1 : RC M g n E := hC.kp (fun i h1 => hf.1 i (by simp; omega))
    rw [w_X9_layRow_7, hx, if_neg (nI_nn (by omega)), nI_clamp (n := q) (by omega)]
    obtain ⟨y, hy⟩ : ∃ y, y = nI q + (-1) := ⟨_, rfl⟩
    rw [← hy]
    refine ⟨vpT (by omega) (by omega), ?_⟩
    have hR1 : M.1 (41, 0, 0, 0) = R := by rw [hf.1 _ (by simp)]; exact hR
    by_cases z : kd g q = 0
    · have h35 := hC1.2.2.2.2.2.2.2.1 q (by omega)
      unfold kdI at h35
      rw [h35, z, nz_0, if_pos rfl]
      refine ih y M hy (by omega) hf (fun k hk hkn hz => ?_)
      by_cases e : k = q
      · subst e; exact absurd z hz
      · exact hE k (by omega) hkn hz
    have hle := kd_le g q
    rw [hC1.k35 (by omega) rfl z, if_neg (nI_neN (by omega))]
    obtain ⟨s1, s2, -⟩ := sh hn hs (by omega : q < n) rfl z
    have val : evc g E (M.1 (41, 0, 0, 0)) q (kd g q) (M.1 (40, 0, 0, 0) (q + 1)) (M.1 (40, 0, 0, 0) (E (q + 1))) = ev g n E R q := by
      rw [ev_eq hn hs (by omega) z, hR1]
      refine evc_c (by omega) (kd_le g q) (fun z => ?_) (fun z => ?_) (fun _ => rfl) (fun _ => rfl)
      · obtain ⟨a, b, -⟩ := s1 z
        exact hE (q + 1) (by omega) a b
      · obtain ⟨a, b, d, -⟩ := s2 z
        exact hE (E (q + 1)) (by omega) b d
    have next : ∀ v, v = ev g n E R q → w_X9_layRow_7 Q (q + 1) y (mu M (40, 0, 0, 0) q v) := by
      intro v hv
      refine ih y _ hy (by omega) (hf.tr (onl.mr _ (by simp))) (fun k hk hkn hz => ?_)
      rw [mu_row]
      by_cases e : k = q
      · subst e; rw [upd_at]; exact hv
      · rw [upd_ne _ _ e]; exact hE k (by omega) hkn hz
    refine c9_isTerm hC1 (by omega) (fun h => absurd h z) (fun h => ?_) (fun h h2 => ?_)
    · rw [if_pos rfl]
      refine c9_truthAt hC1 (by omega) rfl h (fun a b => ?_) (fun a b => ?_) ⟨vpT (by omega) (by omega), next _ val⟩
      · have i1 : 1 ≤ innr (kd g q) := by
          have : kd g q = 12 ∨ kd g q = 13 ∨ kd g q = 14 := by omega
          rcases this with h | h | h <;> rw [h] <;> decide
        obtain ⟨u1, u2, u3⟩ := s1 i1
        rw [hE (q + 1) (by omega) u1 u2]
        refine ev_t hn hs u1 u2 ?_
        rw [u3]
        unfold ptw
        rw [if_pos (by omega)]
      · have i1 : innr (kd g q) = 2 := by
          have : kd g q = 12 ∨ kd g q = 13 := by omega
          rcases this with h | h <;> rw [h] <;> decide
        obtain ⟨u1, u2, u3, u4⟩ := s2 i1
        rw [hE (E (q + 1)) (by omega) u2 u3]
        refine ev_t hn hs u2 u3 ?_
        rw [u4]
        unfold ptw
        rw [if_pos (by omega)]
    · rw [if_neg (by decide)]
      exact c9_number hC1 (by omega) rfl h h2 ⟨vpT (by omega) (by omega), next _ val⟩
theorem c9_layRow {g : Nat → Int32} {n : Nat} {E : Nat → Nat} {M : Mem} (hC : RC M g n E) {Q : Mem → Prop} (hQ : ∀ M1, onl M M1 [40] → M1.1 (40, 0, 0, 0) 0 = ev g n E (M.1 (41, 0, 0, 0)) 0 → Q M1) : w_X9_layRow Q M := by
  intro x e
  rw [hC.2.2.1, dn_of] at e
  exact ⟨n + 1, c9_layRow_7 hC rfl hQ n x M e (Nat.le_refl n) onl.rf (fun k h1 h2 => absurd h2 (by omega))⟩
def rwo (rr : Nat → Int32) (b r : Nat) : Nat → Int32 := fun c => rr (32 * b + 4 * r + c)
theorem ev_row {g : Nat → Int32} {n : Nat} {E : Nat → Nat} {R R2 : Nat → Int32} (hn : stk g n = some []) (h0 : 0 < n) (hs : SQ g n E) (hsg : ∀ i, i < n → ∃ m, 33 ≤ m ∧ m < 127 ∧ g i = nI m) (h : ∀ c, c < 4 → R c = R2 c) : ev g n E R 0 = ev g n E R2 0 := by
  refine ev_R hn hs (fun k hk hl => ?_) h0 (kd_nz hn h0 (show stk g 0 = some [1] from rfl) (by omega))
  obtain ⟨j, j1, j2, j3, j4⟩ := isL_ix (hsg k hk) hl
  rw [j4, j4, h j j1]
theorem c9_truthOfRow_2 {g : Nat → Int32} {n : Nat} {E : Nat → Nat} {M0 : Mem} (hC : RC M0 g n E) {b r : Nat} (hb : b < 6) (hr : r < 8) {Q : Int32 → Mem → Prop} (hQ : ∀ M1, onl M0 M1 [40, 41] → Q (ev g n E (rwo (M0.1 (30, 0, 0, 0)) b r) 0) M1) : ∀ m c M, c + m = 4 → onl M0 M [40, 41] → (∀ j, j < c → M.1 (41, 0, 0, 0) j = rwo (M0.1 (30, 0, 0, 0)) b r j) → w_X9_truthOfRow_2 (nI b) (nI r) Q (m + 1) (nI c) M := by
  intro m
  induction m with
  | zero =>
    intro c M hc hf h
    have : c = 4 := by omega
    subst this
    rw [w_X9_truthOfRow_2, if_pos (by decide)]
    have hC1 : RC M g n E := hC.kp (fun i h1 => hf.1 i (by simp; omega))
    refine c9_layRow hC1 (fun M1 f1 e1 => ?_)
    rw [e1, ev_row hC.2.2.2.2.1 hC.2.1 hC.2.2.2.2.2.1 hC.2.2.2.2.2.2.1 h]
    exact hQ M1 (hf.tr (f1.sub (by simp)))
  | succ m ih =>
    intro c M hc hf h
    rw [w_X9_truthOfRow_2, if_neg (by rw [nI_lel (by omega) (by omega)]; omega)]
    refine c9_at hb hr (by omega) ⟨vpT (by omega) (by omega), ?_⟩
    rw [nI_1, nI_clamp (by omega)]
    refine ih (c + 1) _ (by omega) (hf.tr (onl.mr _ (by simp))) (fun j hj => ?_)
    rw [mu_row]
    by_cases e : j = c
    · subst e
      rw [upd_at, hf.1 _ (by simp)]
      rfl
    · rw [upd_ne _ _ e]; exact h j (by omega)
theorem c9_truthOfRow {g : Nat → Int32} {n : Nat} {E : Nat → Nat} {M : Mem} (hC : RC M g n E) {b r : Nat} (hb : b < 6) (hr : r < 8) {Q : Int32 → Mem → Prop} (hQ : ∀ M1, onl M M1 [40, 41] → Q (ev g n E (rwo (M.1 (30, 0, 0, 0)) b r) 0) M1) : w_X9_truthOfRow (nI b) (nI r) Q M :=
  ⟨5, c9_truthOfRow_2 hC hb hr hQ 4 0 M rfl onl.rf (fun j hj => absurd hj (by omega))⟩
theorem CQ.rc {M M1 M2 : Mem} {g : Nat → Int32} {n : Nat} {E : Nat → Nat} (h : CQ M g n E) (h29 : M1.1 (29, 0, 0, 0) 4 = nI n) (h34 : M1.1 (34, 0, 0, 0) = g) (hf : onl M1 M2 rdK) (hr : RR M2 g n E) : RC M2 g n E :=
  ⟨h.1, h.2.1, by rw [hf.1 _ (by simp)]; exact h29, by rw [hf.1 _ (by simp)]; exact h34, h.2.2.2.2.1, h.2.2.2.2.2.1, h.2.2.2.2.2.2.1, hr⟩
/-- truth -/
theorem o_truth {a1 a2 : Int32} {M : Mem} (hR : Rel M) {Q : Int32 → Mem → Prop} (hQ : ∀ r M1, OPK (w_X9_truth a1 a2) M r M1 → Q r M1) : w_X8_truth a1 a2 Q M := by
  have hR0 := hR
  obtain ⟨⟨mn, hS⟩, hI, n, hn, h29, hq⟩ := hR
  rcases x6 a1 with h | ⟨b, hb, rfl⟩
  · refine c8_isRowB h ?_
    rw [if_pos rfl]
    refine hQ _ _ (OPK.same hR0 fun Q q => c9_isRowB h ?_)
    rw [if_pos rfl]
    exact q
  · obtain ⟨h31, hB, -⟩ := hS b hb
    rcases xn a2 (n := mn b) (by have := hB.2.1; omega) with h | ⟨r, hr, rfl⟩
    · refine c8_isRow0 hb hB.1 h ?_
      rw [if_pos rfl]
      refine hQ _ _ (OPK.same hR0 fun Q q => c9_isRow0 hb hB.2.1 h31 h ?_)
      rw [if_pos rfl]
      exact q
    · have hm := hB.2.1
      refine c8_isRow hb hB.2.1 hB.1 hr ?_
      rw [if_neg (by decide)]
      rcases hq.cases hn with ⟨E, hc, hf, -⟩ | ⟨v, hv, hf, -⟩
      · refine hf _ ?_
        rw [if_pos rfl]
        refine ⟨vpT (by omega) (by omega), vpT (by omega) (by omega), ?_⟩
        rw [nI_clamp (by omega), nI_clamp (by omega)]
        refine c3_judge hc (by simp) (fun M1 f1 => hQ _ _ ⟨f1.1 _ (by simp), fun Q q => ?_⟩)
        refine c9_isRow hb hB.2.1 (by rw [f1.1 _ (by simp)]; exact h31) hr ?_
        rw [if_neg (by decide)]
        refine c9_readE hn hc.2.2.2.2.1 hc.2.2.2.2.2.1 (by rw [f1.1 _ (by simp)]; exact h29) (by rw [f1.1 _ (by simp)]) (fun M2 f2 rr => ?_)
        rw [if_pos rfl]
        have hrc : RC M2 _ n E := hc.rc (by rw [f1.1 _ (by simp)]; exact h29) (by rw [f1.1 _ (by simp)]) f2 rr
        refine c9_truthOfRow hrc hb (by omega) (fun M3 f3 => ?_)
        have e : ev (M.1 (34, 0, 0, 0)) n E (rwo (M2.1 (30, 0, 0, 0)) b r) 0 = ev (M.1 (34, 0, 0, 0)) n E (M.1 (5, 0, b, r)) 0 := by
          refine ev_row hc.2.2.2.2.1 hc.2.1 hc.2.2.2.2.2.1 hc.2.2.2.2.2.2.1 (fun c hc4 => ?_)
          rw [hB.2.2.1 r c hr hc4, f2.1 _ (by simp), f1.1 _ (by simp)]
          rfl
        rw [e]
        refine q M3 (by rw [f3.1 _ (by simp), f2.1 _ (by simp)]) (hR0.look (((onl.look f1 (by simp)).tr (rd_look f2)).tr (onl.look f3 (by simp))))
      · refine hf _ ?_
        rw [if_neg (by decide)]
        refine hQ _ _ ⟨rfl, fun Q q => c9_isRow hb hB.2.1 h31 hr ?_⟩
        rw [if_neg (by decide)]
        refine c9_readF hn hv h29 rfl (fun M1 f1 => ?_)
        rw [if_neg (hv.nN hn)]
        exact q M1 (f1.1 _ (by simp)) (hR0.look (rd_look f1))
