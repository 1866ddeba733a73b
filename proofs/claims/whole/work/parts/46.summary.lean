/-! summary, listed -/
theorem fr3.look {M M1 : Mem} {s b : Nat} (h : fr3 M M1 s b 4) : look M M1 := by
  intro i hi
  refine h.1 i (fun hj => ?_)
  unfold inS at hi
  rcases hj with e | e | e <;> subst e <;> dsimp only at hi <;> omega
theorem onl.look {M M1 : Mem} {l : List Nat} (h : onl M M1 l) (hl : ∀ x, x ∈ l → (17 < x ∧ x < 29) ∨ x = 33 ∨ (34 < x ∧ x < 45)) : look M M1 := by
  intro i hi
  refine h.1 i (fun hj => ?_)
  have := hl _ hj
  unfold inS at hi
  omega
theorem o_summary {a1 a2 a3 : Int32} {M : Mem} (hR : Rel M) {Q : Int32 → Mem → Prop} (hQ : ∀ r M1, OPK (w_X9_summary a1 a2 a3) M r M1 → Q r M1) : w_X8_summary a1 a2 a3 Q M := by
  have hR0 := hR
  obtain ⟨⟨mn, hS⟩, -, -⟩ := hR
  rcases x6 a1 with h | ⟨b, hb, rfl⟩
  · refine c8_isBlock0 h ?_
    rw [if_pos rfl]
    refine hQ _ _ (OPK.same hR0 fun Q q => c9_isBlock0 h ?_)
    rw [if_pos rfl]
    exact q
  · obtain ⟨h31, hB, hP⟩ := hS b hb
    refine c8_isBlock hb ?_
    rw [if_neg (by decide)]
    rcases x4 a2 with h | ⟨c, hc, rfl⟩
    · refine c8_isColumn0 h ?_
      rw [if_pos rfl]
      refine hQ _ _ (OPK.same hR0 fun Q q => c9_isBlock hb ?_)
      rw [if_neg (by decide)]
      refine c9_isColumn0 h ?_
      rw [if_pos rfl]
      exact q
    · refine c8_isColumn hc ?_
      rw [if_neg (by decide)]
      refine ⟨vpT (by omega) (by omega), vpT (by omega) (by omega), ?_⟩
      rw [nI_clamp (by omega), nI_clamp (by omega)]
      obtain ⟨s0, s1, s2, s3⟩ := hB.2.2.2 c hc
      have pre : ∀ {Q : Int32 → Mem → Prop} {M1 : Mem}, (w_X9_in a3 (0 : Int32) (4 : Int32) (fun (r20 : Int32) (M20 : Mem) => (if r20 = 0 then (Q (-3000002 : Int32) M20) else (if a3 = (4 : Int32) then (w_X9_isStale (nI b) (nI c) (fun (r37 : Int32) (M37 : Mem) => (if r37 = 0 then (Q (0 : Int32) M37) else (Q (1 : Int32) M37))) M20) else (vp_in (((12 : Int32) * (((4 : Int32) * nI b) + nI c)) + a3) 288 ∧ (∀ x4_64 : Int32, x4_64 = M20.1 (32, 0, 0, 0) ((((12 : Int32) * (((4 : Int32) * nI b) + nI c)) + a3).toNatClampNeg) → (if a3 = (3 : Int32) then (if 0 ≤ x4_64 then (Q x4_64 M20) else (Q (-2000000 : Int32) M20)) else (Q x4_64 M20))))))) M1) → w_X9_summary (nI b) (nI c) a3 Q M1 := by
        intro Q M1 h
        refine c9_isBlock hb ?_
        rw [if_neg (by decide)]
        refine c9_isColumn hc ?_
        rw [if_neg (by decide)]
        exact h
      have ek : (12 : Int32) * ((4 : Int32) * nI b + nI c) = nI (12 * (4 * b + c)) := by rw [nI_ml, nI_add, nI_ml]
      rw [ek] at pre
      have hlit : ∀ w, w < 4 → a3 = nI w → w ≠ 3 → Q (M.1 (32, 0, 0, 0) (12 * (4 * b + c) + w)) M := by
        intro w hw ew h3
        subst ew
        refine hQ _ _ (OPK.same hR0 fun Q q => pre ?_)
        refine c9_in1 (nI_nn (by omega)) (by rw [nI_ltl (by omega) (by omega)]; omega) ?_
        rw [if_neg (by decide), if_neg (by rw [nI_eql (by omega) (by omega)]; omega), nI_add]
        refine ⟨vpT (by omega) (by omega), fun x e => ?_⟩
        rw [nI_clamp (by omega)] at e
        rw [if_neg (by rw [nI_eql (by omega) (by omega)]; omega), e]
        exact q
      by_cases e0 : a3 = 0
      · rw [if_pos e0, s0]
        exact hlit 0 (by omega) e0 (by omega)
      rw [if_neg e0]
      by_cases e1 : a3 = 1
      · rw [if_pos e1, s1]
        exact hlit 1 (by omega) e1 (by omega)
      rw [if_neg e1]
      by_cases e2 : a3 = 2
      · rw [if_pos e2, s2]
        exact hlit 2 (by omega) e2 (by omega)
      rw [if_neg e2]
      by_cases e3 : a3 = 3
      · rw [if_pos e3]
        subst e3
        have post : ∀ {Q : Int32 → Mem → Prop}, (if 0 ≤ M.1 (32, 0, 0, 0) (12 * (4 * b + c) + 3) then Q (M.1 (32, 0, 0, 0) (12 * (4 * b + c) + 3)) M else Q (-2000000) M) → w_X9_summary (nI b) (nI c) 3 Q M := by
          intro Q h
          refine pre (c9_in1 (by decide) (by decide) ?_)
          rw [if_neg (by decide), if_neg (by decide), show nI (12 * (4 * b + c)) + 3 = nI (12 * (4 * b + c) + 3) from nI_al _ _]
          refine ⟨vpT (by omega) (by omega), fun x e => ?_⟩
          rw [nI_clamp (by omega)] at e
          rw [if_pos rfl, e]
          exact h
        rcases s3 with ⟨q1, q2, q3⟩ | ⟨n, hn, q1, q2, q3, q4⟩
        · rw [q2, if_neg (by decide)]
          refine hQ _ _ (OPK.same hR0 fun Q q => post ?_)
          rw [q1, if_neg (by decide)]
          exact q
        · rw [q2, if_pos rfl, q3]
          refine hQ _ _ (OPK.same hR0 fun Q q => post ?_)
          rw [q1, if_pos (nI_ge0 (by omega))]
          exact q
      rw [if_neg e3]
      by_cases e4 : a3 = 4
      · rw [if_pos e4]
        subst e4
        refine ⟨vpT (by omega) (by omega), ?_⟩
        refine c0_isStale hc hB (hP.2 c hc).2 (fun r M1 h0 h1 hf hR1 => ?_)
        have hr := stI_of h0 h1
        have hl : look M M1 := hf.look
        have key : ∀ x : Int32, x = r → Q x M1 := by
          intro x ex
          refine hQ _ _ ⟨hf.knd (by omega) (by omega) (by omega), fun Q q => pre (c9_in1 (by decide) (by decide) ?_)⟩
          rw [if_neg (by decide), if_pos rfl]
          refine c9_isStale hb hc hB.2.1 (by rw [hl _ (by simp)]; exact h31) ?_ (fun r2 R33 g0 g1 => ?_)
          · rw [hl _ (by simp)]; exact (hP.2 c hc).1
          · rw [hl (30, 0, 0, 0) (by simp), hl (32, 0, 0, 0) (by simp)] at g1
            have hr2 := stI_of g0 g1
            rw [← hr] at hr2
            have hRel : Rel (mr M1 (33, 0, 0, 0) R33) := hR0.look (hl.tr (onl.look (onl.mr (l := [33]) _ (by simp)) (by simp)))
            have q2 := q (mr M1 (33, 0, 0, 0) R33) (mr_ne _ _ (by simp)) hRel
            rcases g0 with g0 | g0
            · rw [if_pos g0]; rw [ex, ← hr2, g0] at q2; exact q2
            · rw [if_neg (by rw [g0]; decide)]; rw [ex, ← hr2, g0] at q2; exact q2
        rcases h0 with h0 | h0
        · rw [if_pos h0]; exact key 0 h0.symm
        · rw [if_neg (by rw [h0]; decide)]; exact key 1 h0.symm
      rw [if_neg e4]
      refine hQ _ _ (OPK.same hR0 fun Q q => pre (c9_in0 ?_ ?_))
      · rcases xn a3 (n := 5) (by omega) with h | ⟨w, hw, e⟩
        · exact h.imp id (lt_of_le_s (by decide))
        · exfalso
          have : w = 0 ∨ w = 1 ∨ w = 2 ∨ w = 3 ∨ w = 4 := by omega
          rcases this with h | h | h | h | h <;> subst h
          · exact e0 e
          · exact e1 e
          · exact e2 e
          · exact e3 e
          · exact e4 e
      · rw [if_pos rfl]; exact q
