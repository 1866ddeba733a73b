/-! listed, add, drop, anew -/
theorem c8_listed_in {b c w : Nat} {a3 a4 : Int32} {M : Mem} {f : Nat → Int32} {k : Nat} (hR : RSum M 0 b c f k) (hw : w < 2) (ha : a4 = nI w) {Q : Int32 → Mem → Prop} (hN : (a3 < 0 ∨ f (12 * k + 3) = -1 ∨ ∃ n, n ≤ 4 ∧ f (12 * k + 3) = nI n ∧ nI n ≤ a3) → Q (-2000000) M) (hY : ∀ i n, i < n → n ≤ 4 → f (12 * k + 3) = nI n → a3 = nI i → Q (f (12 * k + 4 + 4 * w + i)) M) : (if (M.1 (7, 0, b, c) 4) = 0 then (if a3 < 0 then (Q (-2000000 : Int32) M) else (if a3 < (M.1 (7, 0, b, c) 3) then (if a4 = 0 then (vp_in a3 4 ∧ (Q (M.1 (8, 0, b, c) a3.toNatClampNeg) M)) else (vp_in a3 4 ∧ (Q (M.1 (9, 0, b, c) a3.toNatClampNeg) M))) else (Q (-2000000 : Int32) M))) else (Q (-2000000 : Int32) M)) := by
  obtain ⟨s0, s1, s2, s3⟩ := hR
  rcases s3 with ⟨q1, q2, q3⟩ | ⟨n, hn, q1, q2, q3, q4⟩
  · rw [q2, if_neg (by decide)]
    exact hN (Or.inr (Or.inl q1))
  · rw [q2, if_pos rfl, q3]
    by_cases h1 : a3 < 0
    · rw [if_pos h1]
      exact hN (Or.inl h1)
    · rw [if_neg h1]
      rcases xn a3 (n := n) (by omega) with h | ⟨i, hi, e⟩
      · have h := h.resolve_left h1
        rw [if_neg (Int32.not_lt.mpr h)]
        exact hN (Or.inr (Or.inr ⟨n, hn, q1, h⟩))
      · have hv := hY i n hi hn q1 e
        rw [e, if_pos (by rw [nI_ltI (by omega) (by omega)]; exact hi)]
        have : w = 0 ∨ w = 1 := by omega
        rcases this with h | h <;> subst h
        · rw [if_pos (show a4 = 0 from ha)]
          refine ⟨vpT (by omega) (by omega), ?_⟩
          rw [nI_clamp (by omega), (q4 i hi).1]
          exact hv
        · rw [if_neg (by rw [ha]; decide)]
          refine ⟨vpT (by omega) (by omega), ?_⟩
          rw [nI_clamp (by omega), (q4 i hi).2]
          exact hv
theorem o_listed {a1 a2 a3 a4 : Int32} {M : Mem} (hR : Rel M) {Q : Int32 → Mem → Prop} (hQ : ∀ r M1, OPK (w_X9_listed a1 a2 a3 a4) M r M1 → Q r M1) : w_X8_listed a1 a2 a3 a4 Q M := by
  have hR0 := hR
  obtain ⟨⟨mn, hS⟩, -, -⟩ := hR
  rcases x6 a1 with h | ⟨b, hb, rfl⟩
  · refine c8_isBlock0 h ?_
    rw [if_pos rfl]
    refine hQ _ _ (OPK.same hR0 fun Q q => c9_isBlock0 h ?_)
    rw [if_pos rfl]
    exact q
  · obtain ⟨h31, hB, hP⟩ := hS b hb
    refine c8_isBlock hb ?_
    rw [if_neg (by decide)]
    rcases x4 a2 with h | ⟨c, hc, rfl⟩
    · refine c8_isColumn0 h ?_
      rw [if_pos rfl]
      refine hQ _ _ (OPK.same hR0 fun Q q => c9_isBlock hb ?_)
      rw [if_neg (by decide)]
      refine c9_isColumn0 h ?_
      rw [if_pos rfl]
      exact q
    · refine c8_isColumn hc ?_
      rw [if_neg (by decide), nI_clamp (by omega), nI_clamp (by omega)]
      have ek : (12 : Int32) * ((4 : Int32) * nI b + nI c) = nI (12 * (4 * b + c)) := by rw [nI_ml, nI_add, nI_ml]
      have main : ∀ w, w < 2 → a4 = nI w → (vp_in (nI b) 6 ∧ vp_in (nI c) 4 ∧ (if (M.1 (7, 0, b, c) 4) = 0 then (if a3 < 0 then (Q (-2000000 : Int32) M) else (if a3 < (M.1 (7, 0, b, c) 3) then (if a4 = 0 then (vp_in a3 4 ∧ (Q (M.1 (8, 0, b, c) a3.toNatClampNeg) M)) else (vp_in a3 4 ∧ (Q (M.1 (9, 0, b, c) a3.toNatClampNeg) M))) else (Q (-2000000 : Int32) M))) else (Q (-2000000 : Int32) M))) := by
        intro w hw ew
        refine ⟨vpT (by omega) (by omega), vpT (by omega) (by omega), ?_⟩
        have pre : ∀ {Q : Int32 → Mem → Prop}, (w_X9_in a3 (0 : Int32) ((M.1 (32, 0, 0, 0) (12 * (4 * b + c) + 3)) - (1 : Int32)) (fun (r53 : Int32) (M53 : Mem) => (if r53 = 0 then (Q (-2000000 : Int32) M53) else (vp_in (((nI (12 * (4 * b + c)) + (4 : Int32)) + ((4 : Int32) * a4)) + a3) 288 ∧ (Q (M53.1 (32, 0, 0, 0) ((((nI (12 * (4 * b + c)) + (4 : Int32)) + ((4 : Int32) * a4)) + a3).toNatClampNeg)) M53)))) M) → w_X9_listed (nI b) (nI c) a3 a4 Q M := by
          intro Q h
          refine c9_isBlock hb ?_
          rw [if_neg (by decide)]
          refine c9_isColumn hc ?_
          rw [if_neg (by decide)]
          refine c9_in1 (by rw [ew]; exact nI_nn (by omega)) (by rw [ew, nI_ltl (by omega) (by omega)]; omega) ?_
          rw [if_neg (by decide)]
          intro x e
          rw [ek] at e
          subst e
          rw [show nI (12 * (4 * b + c)) + 3 = nI (12 * (4 * b + c) + 3) from nI_al _ _]
          refine ⟨vpT (by omega) (by omega), ?_⟩
          rw [nI_clamp (by omega)]
          exact h
        refine c8_listed_in (hB.2.2.2 c hc) hw ew (fun hn => ?_) (fun i n hi hn h3 e => ?_)
        · refine hQ _ _ (OPK.same hR0 fun Q q => pre (c9_in0 ?_ ?_))
          · rcases hn with h | h | ⟨n, hn, h3, h⟩
            · exact Or.inl h
            · rw [h]
              by_cases h1 : a3 < 0
              · exact Or.inl h1
              · rw [i32_lt] at h1
                refine Or.inr ?_
                rw [i32_lt, show ((-1 : Int32) - 1).toInt = -2 from by decide]
                have : (0 : Int32).toInt = 0 := rfl
                omega
            · rw [h3]
              refine Or.inr (lt_of_le_s ?_ h)
              rw [nI_m1 (by omega), nI_toInt (by omega)]
              omega
          · rw [if_pos rfl]; exact q
        · refine hQ _ _ (OPK.same hR0 fun Q q => pre ?_)
          rw [h3, e, ew]
          refine c9_in1 (nI_nn (by omega)) (by rw [i32_lt, nI_m1 (by omega), nI_toInt (by omega)]; omega) ?_
          rw [if_neg (by decide), show nI (12 * (4 * b + c)) + 4 = nI (12 * (4 * b + c) + 4) from nI_al _ _, nI_ml, nI_add, nI_add]
          refine ⟨vpT (by omega) (by omega), ?_⟩
          rw [nI_clamp (by omega)]
          exact q
      by_cases e0 : a4 = 0
      · rw [if_pos e0]
        exact main 0 (by omega) e0
      · rw [if_neg e0]
        by_cases e1 : a4 = 1
        · rw [if_pos e1]
          exact main 1 (by omega) e1
        · rw [if_neg e1]
          refine hQ _ _ (OPK.same hR0 fun Q q => c9_isBlock hb ?_)
          rw [if_neg (by decide)]
          refine c9_isColumn hc ?_
          rw [if_neg (by decide)]
          refine c9_in0 ?_ ?_
          · rcases xn a4 (n := 2) (by omega) with h | ⟨w, hw, e⟩
            · exact h.imp id (lt_of_le_s (by decide))
            · exfalso
              have : w = 0 ∨ w = 1 := by omega
              rcases this with h | h <;> subst h
              · exact e0 e
              · exact e1 e
          · rw [if_pos rfl]; exact q
