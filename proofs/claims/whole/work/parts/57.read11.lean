/-! read of the reference: the loops -/
def rol (g : Nat → Int32) (k : Nat) : Nat := match stk g k with | some (r :: _) => r | _ => 0
def kd (g : Nat → Int32) (k : Nat) : Nat := if rol g k = 1 ∨ rol g k = 2 then knd (rol g k) (g k) else 0
theorem rol_of {g : Nat → Int32} {k r : Nat} {T : List Nat} (h : stk g k = some (r :: T)) : rol g k = r := by
  unfold rol
  rw [h]
theorem kd_1 {g : Nat → Int32} {k : Nat} {T : List Nat} (h : stk g k = some (1 :: T)) : kd g k = trK (g k) := by
  unfold kd
  rw [rol_of h, if_pos (Or.inl rfl)]
  rfl
theorem kd_2 {g : Nat → Int32} {k : Nat} {T : List Nat} (h : stk g k = some (2 :: T)) : kd g k = tmK (g k) := by
  unfold kd
  rw [rol_of h, if_pos (Or.inr rfl)]
  rfl
theorem kd_o {g : Nat → Int32} {k r : Nat} {T : List Nat} (h : stk g k = some (r :: T)) (hr : 3 ≤ r) : kd g k = 0 := by
  unfold kd
  rw [rol_of h, if_neg (by omega)]
theorem kd_le (g : Nat → Int32) (k : Nat) : kd g k ≤ 15 := by
  unfold kd
  split
  · rename_i h
    rcases h with h | h <;> rw [h]
    · have := trK_r (g k)
      show trK (g k) ≤ 15
      omega
    · have := tmK_r (g k)
      show tmK (g k) ≤ 15
      omega
  · omega
def kdI (g : Nat → Int32) (k : Nat) : Int32 := nz (kd g k)
theorem c9_read_11 {g : Nat → Int32} {n : Nat} (hn60 : n ≤ 60) {Q : Int32 → Mem → Prop} {M0 : Mem} (h29 : M0.1 (29, 0, 0, 0) 4 = nI n) (h34 : M0.1 (34, 0, 0, 0) = g)
    (hW : ∀ w S M1, w < n → stk g w = some S → stk g (w + 1) = none → onl M0 M1 [35, 39] → Q (nI w) M1)
    (hP : ∀ r T M1, stk g n = some (r :: T) → onl M0 M1 [35, 39] → Q (nI n) M1)
    (hE : ∀ M1, stk g n = some [] → onl M0 M1 [35, 39] → (∀ j, j < n → M1.1 (35, 0, 0, 0) j = kdI g j) → ∃ k0, w_X9_read_301 Q k0 (dn n) M1) :
    ∀ m k M S, k + m = n → stk g k = some S → onl M0 M [35, 39] → stkA (M.1 (39, 0, 0, 0)) S → (∀ j, j < k → M.1 (35, 0, 0, 0) j = kdI g j) → w_X9_read_11 Q (m + 1) (nI S.length) (nI k) M := by
  intro m
  induction m with
  | zero =>
    intro k M S hk hS hf hA hK
    have : k = n := by omega
    subst this
    rw [w_X9_read_11, hf.1 _ (by simp), h29, if_pos (by rw [nI_leI (by omega) (by omega)]; omega)]
    cases S with
    | nil =>
      rw [if_pos (by decide)]
      intro x e
      rw [e, dn_of]
      exact hE M hS hf hK
    | cons r T =>
      have hlen := stk_len k _ hS
      rw [if_neg (nI_nle (by simp) (by omega))]
      exact hP r T M hS hf
  | succ m ih =>
    intro k M S hk hS hf hA hK
    have hlen := stk_len k _ hS
    rw [w_X9_read_11, hf.1 _ (by simp), h29, if_neg (by rw [nI_leI (by omega) (by omega)]; omega), nI_clamp (n := k) (by omega), hf.1 (34, 0, 0, 0) (by simp), h34]
    obtain ⟨M', hM'⟩ : ∃ M', M' = mu M (35, 0, 0, 0) k (-2000000) := ⟨_, rfl⟩
    rw [← hM']
    have f' : onl M0 M' [35, 39] := by rw [hM']; exact hf.tr (onl.mr _ (by simp))
    have k35 : M'.1 (35, 0, 0, 0) = upd (M.1 (35, 0, 0, 0)) k (-2000000) := by rw [hM', mu_row]
    have k39 : M'.1 (39, 0, 0, 0) = M.1 (39, 0, 0, 0) := by rw [hM', mu_ne _ _ _ (by simp)]
    refine ⟨vpT (by omega) (by omega), fun x3 e3 => ⟨vpT (by omega) (by omega), ?_⟩⟩
    subst e3
    cases S with
    | nil =>
      rw [if_pos (show nI ([] : List Nat).length = 0 from rfl)]
      exact hW k [] M' (by omega) hS (stk_e hS) f'
    | cons r T =>
      have hst := stk_s hS
      have hr := stk_mem k _ hS r (by simp)
      simp only [List.length_cons] at hlen
      rw [List.length_cons, if_neg (nI_ne0 (by omega) (by omega)), show nI (T.length + 1) + (-1) = nI T.length from pk_m1 _]
      refine ⟨vpT (by omega) (by omega), fun x4 e4 => ?_⟩
      rw [nI_clamp (by omega), k39, hA.1] at e4
      subst e4
      have wrong : knd r (g k) = 0 → ∀ M1, onl M' M1 [35, 39] → Q (nI k) M1 := fun hz M1 h1 => by
        rw [if_pos hz] at hst
        exact hW k _ M1 (by omega) hS hst (f'.tr h1)
      have low : 3 ≤ r → knd r (g k) ≠ 0 → psh (knd r (g k)) = [] → w_X9_read_11 Q (m + 1) (nI T.length) (nI k + 1) M' := fun h3 hz hp => by
        rw [if_neg hz, hp] at hst
        rw [nI_1]
        refine ih (k + 1) M' T (by omega) hst f' (by rw [k39]; exact hA.2) (fun j hj => ?_)
        rw [k35]
        by_cases e : j = k
        · subst e
          rw [upd_at]
          unfold kdI
          rw [kd_o hS h3]
          rfl
        · rw [upd_ne _ _ e]
          exact hK j (by omega)
      have high : ∀ c, c = knd r (g k) → r ≤ 2 → 1 ≤ c → c ≤ 15 → (if nI c = (3 : Int32) then w_X9_read_165 Q (fun x1 x2 M => w_X9_read_11 Q (m + 1) x1 x2 M) (nI T.length) (nI k) (nI c) (mu M' (35, 0, 0, 0) k (nI c)) else if nI c = (8 : Int32) then w_X9_read_165 Q (fun x1 x2 M => w_X9_read_11 Q (m + 1) x1 x2 M) (nI T.length) (nI k) (nI c) (mu M' (35, 0, 0, 0) k (nI c)) else if nI c = (15 : Int32) then w_X9_read_165 Q (fun x1 x2 M => w_X9_read_11 Q (m + 1) x1 x2 M) (nI T.length) (nI k) (nI c) (mu M' (35, 0, 0, 0) k (nI c)) else ∃ k0 : Nat, w_X9_read_228 Q (fun x1 x2 M => w_X9_read_11 Q (m + 1) x1 x2 M) k0 (nI T.length) (nI k) (nI c) (0 : Int32) (mu M' (35, 0, 0, 0) k (nI c))) := by
        intro c hc hr2 h1 h15
        refine c9_push h1 h15 (by omega) (by rw [mu_ne _ _ _ (by simp), k39]; exact hA.2) (fun M1 hf1 hs1 => ?_)
        rw [← hc, if_neg (by omega)] at hst
        refine ih (k + 1) M1 _ (by omega) hst ((f'.tr (onl.mr _ (by simp))).tr (hf1.sub (by simp))) hs1 (fun j hj => ?_)
        rw [hf1.1 _ (by simp), mu_row, k35]
        by_cases e : j = k
        · subst e
          rw [upd_at]
          unfold kdI kd
          rw [rol_of hS, if_pos (by omega), ← hc, nz_p (by omega)]
        · rw [upd_ne _ _ e, upd_ne _ _ e]
          exact hK j (by omega)
      by_cases r2 : r ≤ 2
      · rw [if_pos (by rw [nI_ler (by omega) (by omega)]; exact r2)]
        by_cases r1 : r = 1
        · subst r1
          rw [if_pos (show nI 1 = 1 from rfl)]
          refine c9_truthOf ?_
          rcases trK_r (g k) with hz | hz
          · rw [hz, nz_0, if_neg (by decide)]
            exact wrong hz M' onl.rf
          · rw [nz_p (by omega), if_pos (nI_ge0 (by omega))]
            exact ⟨vpT (by omega) (by omega), high _ rfl (by omega) (by omega) (by omega)⟩
        · have r22 : r = 2 := by omega
          subst r22
          rw [if_neg (show ¬ nI 2 = 1 by decide)]
          refine c9_termOf ?_
          have hz9 := tmK_r (g k)
          by_cases hz : tmK (g k) = 0
          · rw [hz, nz_0, if_neg (by decide)]
            exact wrong hz M' onl.rf
          · rw [nz_p hz, if_pos (nI_ge0 (by omega))]
            exact ⟨vpT (by omega) (by omega), high _ rfl (by omega) (by omega) (by omega)⟩
      · rw [if_neg (by rw [nI_ler (by omega) (by omega)]; exact r2)]
        by_cases r3 : r = 3
        · subst r3
          rw [if_pos (show nI 3 = 3 from rfl)]
          by_cases hl : isL (g k)
          · refine c9_in1 hl.1 hl.2 ?_
            have e : knd 3 (g k) = 16 := if_pos hl
            rw [e] at low
            rw [if_neg (by decide)]
            exact low (by omega) (by omega) rfl
          · refine c9_in0 (or_of_nn hl) ?_
            rw [if_pos rfl]
            exact wrong (if_neg hl) M' onl.rf
        rw [if_neg (show ¬ nI r = 3 from nIne (by omega) (by decide) r3)]
        by_cases r4 : r = 4
        · subst r4
          rw [if_pos (show nI 4 = 4 from rfl)]
          by_cases hl : isD (g k)
          · refine c9_in1 hl.1 hl.2 ?_
            have e : knd 4 (g k) = 17 := if_pos hl
            rw [e] at low
            rw [if_neg (by decide)]
            exact low (by omega) (by omega) rfl
          · refine c9_in0 (or_of_nn hl) ?_
            rw [if_pos rfl]
            exact wrong (if_neg hl) M' onl.rf
        rw [if_neg (show ¬ nI r = 4 from nIne (by omega) (by decide) r4)]
        have r5 : r = 5 := by omega
        subst r5
        by_cases hl : isD (g k) ∧ g k ≠ 48
        · refine c9_in1 (fun q => ?_) hl.1.2 ?_
          · have h1 := hl.1.1
            have h2 := hl.2
            apply h2
            rw [i32_lt] at q h1
            refine Int32.toInt_inj.mp ?_
            have a : (49 : Int32).toInt = 49 := by decide
            have b : (48 : Int32).toInt = 48 := by decide
            omega
          · have e : knd 5 (g k) = 18 := if_pos hl
            rw [e] at low
            rw [if_neg (by decide)]
            exact low (by omega) (by omega) rfl
        · refine c9_in0 ?_ ?_
          · by_cases hd : isD (g k)
            · left
              have h48 : g k = 48 := Classical.byContradiction fun q => hl ⟨hd, q⟩
              rw [h48]
              decide
            · rcases or_of_nn hd with q | q
              · left
                rw [i32_lt] at q ⊢
                have a : (49 : Int32).toInt = 49 := by decide
                have b : (48 : Int32).toInt = 48 := by decide
                omega
              · exact Or.inr q
          · rw [if_pos rfl]
            exact wrong (if_neg hl) M' onl.rf
