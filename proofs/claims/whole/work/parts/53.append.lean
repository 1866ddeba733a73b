/-! append; say -/
theorem c1_isFaulty1 {Q : Int32 → Mem → Prop} {M : Mem} {w : Nat} (hw : w < 2 ^ 31) (h : M.1 (11, 0, 0, 0) 8 = nI w) (hQ : Q 1 M) : w_X1_isFaulty Q M := by
  unfold w_X1_isFaulty
  rw [h, if_neg (nI_neN hw)]
  exact hQ
theorem c1_isFaulty0 {Q : Int32 → Mem → Prop} {M : Mem} {d : Nat} (hd : d < 2 ^ 31) (h : M.1 (11, 0, 0, 0) 8 = -2000000) (h7 : M.1 (11, 0, 0, 0) 7 = nI d) (hQ0 : d = 0 → Q 0 M) (hQ1 : 0 < d → Q 1 M) : w_X1_isFaulty Q M := by
  unfold w_X1_isFaulty
  rw [h, if_pos rfl, h7]
  rcases Nat.eq_zero_or_pos d with e | e
  · subst e
    rw [if_pos (by decide)]
    exact hQ0 rfl
  · rw [if_neg (nI_nle e hd)]
    exact hQ1 e
abbrev qK : List Nat := [11, 12, 13, 14, 15, 16, 17]
theorem stk_upd {g : Nat → Int32} {n k : Nat} {s : Int32} (h : k ≤ n) : stk (upd g n s) k = stk g k := stk_congr k (fun i hi => upd_ne _ _ (by omega))
theorem sg_upd {g : Nat → Int32} {n m : Nat} {s : Int32} (h : ∀ i, i < n → ∃ m, 33 ≤ m ∧ m < 127 ∧ g i = nI m) (hm : 33 ≤ m ∧ m < 127) (hs : s = nI m) : ∀ i, i < n + 1 → ∃ m, 33 ≤ m ∧ m < 127 ∧ upd g n s i = nI m := by
  intro i hi
  by_cases e : i = n
  · subst e
    exact ⟨m, hm.1, hm.2, by rw [upd_at]; exact hs⟩
  · rw [upd_ne _ _ e]
    exact h i (by omega)
theorem QI_wrong {M M1 : Mem} {g : Nat → Int32} {n w : Nat} {S : List Nat} (h0 : M1.1 (11, 0, 0, 0) 0 = nI n) (h12 : M1.1 (12, 0, 0, 0) = g) (hs : ∀ i, i < n → ∃ m, 33 ≤ m ∧ m < 127 ∧ g i = nI m) (h8 : M1.1 (11, 0, 0, 0) 8 = nI w) (hw : w < n) (e1 : stk g w = some S) (e2 : stk g (w + 1) = none) : QI M1 g n := ⟨h0, h12, hs, Or.inr ⟨w, S, hw, e1, e2, h8⟩⟩
theorem c1_append {M : Mem} {g : Nat → Int32} {n m : Nat} {s : Int32} (hn : n < 60) (hm : 33 ≤ m ∧ m < 127) (hs : s = nI m) (hI : QI M g n) {Q : Int32 → Mem → Prop} (hQ : ∀ M1, onl M M1 qK → QI M1 (upd g n s) (n + 1) → Q (nI (n + 1)) M1) : w_X1_append s Q M := by
  obtain ⟨h0, h12, hsg, hd⟩ := hI
  have hsg' := sg_upd hsg hm hs
  unfold w_X1_append
  rw [h0, if_pos (by rw [nI_ltr (by omega) (by omega)]; omega), nI_clamp (by omega)]
  refine ⟨vpT (by omega) (by omega), ?_⟩
  obtain ⟨Ma, ha⟩ : ∃ Ma, Ma = mu M (12, 0, 0, 0) n s := ⟨_, rfl⟩
  rw [← ha]
  have a11 : Ma.1 (11, 0, 0, 0) = M.1 (11, 0, 0, 0) := by rw [ha, mu_ne _ _ _ (by simp)]
  have a12 : Ma.1 (12, 0, 0, 0) = upd g n s := by rw [ha, mu_row, h12]
  have fa : onl M Ma qK := by rw [ha]; exact onl.mr _ (by simp)
  rcases hd with ⟨S, d1, d2, d3, d4, d5, -⟩ | ⟨w, S, w1, w2, w3, w4⟩
  · rw [a11, d2, if_pos rfl]
    have wrong : ∀ M33 : Mem, onl M M33 qK → M33.1 (11, 0, 0, 0) 0 = nI n → M33.1 (12, 0, 0, 0) = upd g n s → stk (upd g n s) (n + 1) = none → ∀ M54 : Mem, M54 = (mu (mu M33 (11, 0, 0, 0) 8 (M33.1 (11, 0, 0, 0) 0)) (11, 0, 0, 0) 0 (((mu M33 (11, 0, 0, 0) 8 (M33.1 (11, 0, 0, 0) 0)).1 (11, 0, 0, 0) 0) + (1 : Int32))) → (w_X1_isFaulty  (fun (r58 : Int32) (M58 : Mem) => (if r58 = 0 then (w_X1_findParts  (fun (M65 : Mem) => (Q (M65.1 (11, 0, 0, 0) 0) M65)) M58) else (Q (M58.1 (11, 0, 0, 0) 0) M58))) M54) := by
      intro M33 f33 b0 b12 bn M54 e
      have z0 : (mu M33 (11, 0, 0, 0) 8 (M33.1 (11, 0, 0, 0) 0)).1 (11, 0, 0, 0) 0 = nI n := by rw [mu_row, upd_ne _ _ (by omega)]; exact b0
      rw [z0, b0, nI_1] at e
      have c8 : M54.1 (11, 0, 0, 0) 8 = nI n := by rw [e, mu_row, upd_ne _ _ (by omega), mu_row, upd_at]
      have c0 : M54.1 (11, 0, 0, 0) 0 = nI (n + 1) := by rw [e, mu_row, upd_at]
      refine c1_isFaulty1 (by omega) c8 ?_
      rw [if_neg (by decide), c0]
      refine hQ M54 ?_ (QI_wrong (M := M) c0 ?_ hsg' c8 (by omega) (by rw [stk_upd (Nat.le_refl n)]; exact d1) bn)
      · rw [e]; exact (f33.tr (onl.mr _ (by simp))).tr (onl.mr _ (by simp))
      · rw [e, mu_ne _ _ _ (by simp), mu_ne _ _ _ (by simp)]; exact b12
    cases S with
    | nil =>
      refine c1_canStand_e ⟨by rw [a11]; exact d3, trivial⟩ ?_
      rw [if_pos rfl]
      exact wrong Ma fa (by rw [a11]; exact h0) a12 (stk_e (by rw [stk_upd (Nat.le_refl n)]; exact d1))
    | cons r T =>
      have hr := stk_mem n _ d1 r (by simp)
      have hlen := stk_len n _ d1
      simp only [List.length_cons] at hlen
      have hps : PS Ma (r :: T) := ⟨by rw [a11]; exact d3, by rw [ha, mu_ne _ _ _ (by simp)]; exact d4⟩
      have d1' : stk (upd g n s) n = some (r :: T) := by rw [stk_upd (Nat.le_refl n)]; exact d1
      have hst := stk_s d1'
      rw [upd_at] at hst
      refine c1_canStand hr (by omega) hn hps (by rw [a11]; exact h0) (fun hk M1 fc hp => ?_) (fun hk M1 fc => ?_)
      · rw [if_neg (by decide)]
        rw [if_neg hk] at hst
        have b0 : M1.1 (11, 0, 0, 0) 0 = nI n := by rw [fc.2.1 _ (by omega), a11]; exact h0
        rw [b0, nI_1]
        obtain ⟨Mb, hb⟩ : ∃ Mb, Mb = mu M1 (11, 0, 0, 0) 0 (nI (n + 1)) := ⟨_, rfl⟩
        rw [← hb]
        have fb : onl M Mb qK := by rw [hb]; exact (fa.tr (fc.1.sub (by simp))).tr (onl.mr _ (by simp))
        have c0 : Mb.1 (11, 0, 0, 0) 0 = nI (n + 1) := by rw [hb, mu_row, upd_at]
        have c8 : Mb.1 (11, 0, 0, 0) 8 = -2000000 := by rw [hb, mu_row, upd_ne _ _ (by omega), fc.2.1 _ (by omega), a11]; exact d2
        have c7 : Mb.1 (11, 0, 0, 0) 7 = nI (psh (knd r s) ++ T).length := by rw [hb, mu_row, upd_ne _ _ (by omega)]; exact hp.1
        have c17 : stkA (Mb.1 (17, 0, 0, 0)) (psh (knd r s) ++ T) := by rw [hb, mu_ne _ _ _ (by simp)]; exact hp.2
        have c12 : Mb.1 (12, 0, 0, 0) = upd g n s := by rw [hb, mu_ne _ _ _ (by simp), fc.1.1 _ (by simp)]; exact a12
        have c13 : Mb.1 (13, 0, 0, 0) = upd (M.1 (13, 0, 0, 0)) n (nI r) := by rw [hb, mu_ne _ _ _ (by simp), fc.2.2, ha, mu_ne _ _ _ (by simp)]
        have croles : ∀ k, k < n + 1 → ∃ r T, stk (upd g n s) k = some (r :: T) ∧ Mb.1 (13, 0, 0, 0) k = nI r := fun k hk => by
          rw [c13]
          by_cases e : k = n
          · subst e
            exact ⟨r, T, d1', by rw [upd_at]⟩
          · rw [upd_ne _ _ e, stk_upd (by omega)]
            exact d5 k (by omega)
        have hlen2 := stk_len (n + 1) _ hst
        refine c1_isFaulty0 (by omega) c8 c7 (fun e0 => ?_) (fun e1 => ?_)
        · rw [if_pos rfl]
          have e0' := List.eq_nil_of_length_eq_zero e0
          rw [e0'] at hst
          refine c1_findParts hst (by omega) hsg' c0 c12 (fun M65 f65 hok => ?_)
          have k11 : M65.1 (11, 0, 0, 0) = Mb.1 (11, 0, 0, 0) := f65.1 _ (by simp)
          rw [k11, c0]
          refine hQ M65 (fb.tr (f65.sub (by simp))) ⟨by rw [k11]; exact c0, by rw [f65.1 _ (by simp)]; exact c12, hsg', Or.inl ⟨[], hst, by rw [k11]; exact c8, by rw [k11, c7, e0]; rfl, trivial, by rw [f65.1 _ (by simp)]; exact croles, fun _ => hok⟩⟩
        · rw [if_neg (by decide), c0]
          refine hQ Mb fb ⟨c0, c12, hsg', Or.inl ⟨_, hst, c8, c7, c17, croles, fun e => ?_⟩⟩
          rw [e] at e1
          exact absurd e1 (by simp)
      · rw [if_pos rfl]
        rw [if_pos hk] at hst
        exact wrong M1 (fa.tr (fc.1.sub (by simp))) (by rw [fc.2.1 _ (by omega), a11]; exact h0) (by rw [fc.1.1 _ (by simp)]; exact a12) hst
  · rw [a11, w4, if_neg (nI_neN (by omega)), h0, nI_1]
    intro M54 e
    have c8 : M54.1 (11, 0, 0, 0) 8 = nI w := by rw [e, mu_row, upd_ne _ _ (by omega), a11]; exact w4
    have c0 : M54.1 (11, 0, 0, 0) 0 = nI (n + 1) := by rw [e, mu_row, upd_at]
    refine c1_isFaulty1 (by omega) c8 ?_
    rw [if_neg (by decide), c0]
    refine hQ M54 ?_ (QI_wrong (M := M) c0 ?_ hsg' c8 (by omega) (by rw [stk_upd (by omega)]; exact w2) (by rw [stk_upd (by omega)]; exact w3))
    · rw [e]; exact fa.tr (onl.mr _ (by simp))
    · rw [e, mu_ne _ _ _ (by simp)]; exact a12
