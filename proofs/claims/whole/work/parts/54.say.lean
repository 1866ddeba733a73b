/-! say, wipe -/
theorem o_say {a1 : Int32} {M : Mem} (hR : Rel M) {Q : Int32 → Mem → Prop} (hQ : ∀ r M1, OPK (w_X9_say a1) M r M1 → Q r M1) : w_X8_say a1 Q M := by
  have hR0 := hR
  obtain ⟨hS, hI, n, hn, h29, hq⟩ := hR
  unfold w_X8_say
  by_cases l1 : a1 < 33
  · rw [if_pos l1]
    refine hQ _ _ (OPK.same hR0 fun Q q => c9_in0 (Or.inl l1) ?_)
    rw [if_pos rfl]
    exact q
  rw [if_neg l1]
  rcases (Classical.em (a1 ≤ 126)).symm with l2 | l2
  · rw [if_neg l2]
    refine hQ _ _ (OPK.same hR0 fun Q q => c9_in0 (Or.inr (Int32.not_le.mp l2)) ?_)
    rw [if_pos rfl]
    exact q
  rw [if_pos l2]
  have hin : ∀ {Q : Int32 → Mem → Prop} {M1 : Mem}, (if (M1.1 (29, 0, 0, 0) 4) = (60 : Int32) then (Q (-4 : Int32) M1) else (vp_in (M1.1 (29, 0, 0, 0) 4) 60 ∧ (∀ M43 : Mem, M43 = (mu (mu M1 (34, 0, 0, 0) ((M1.1 (29, 0, 0, 0) 4).toNatClampNeg) a1) (29, 0, 0, 0) 4 (((mu M1 (34, 0, 0, 0) ((M1.1 (29, 0, 0, 0) 4).toNatClampNeg) a1).1 (29, 0, 0, 0) 4) + (1 : Int32))) → (Q (M43.1 (29, 0, 0, 0) 4) M43)))) → w_X9_say a1 Q M1 := by
    intro Q M1 h
    refine c9_in1 l1 (Int32.not_lt.mpr l2) ?_
    rw [if_neg (by decide)]
    exact h
  by_cases h60 : n = 60
  · subst h60
    unfold w_X1_append
    rw [hq.1, if_neg (by decide)]
    refine hQ _ _ (OPK.same hR0 fun Q q => hin ?_)
    rw [h29, if_pos (show nI 60 = 60 from rfl)]
    exact q
  · obtain ⟨m, hm, em⟩ : ∃ m, (33 ≤ m ∧ m < 127) ∧ a1 = nI m := by
      rcases xn a1 (n := 127) (by omega) with h | ⟨m, hm, e⟩
      · exfalso
        rcases h with h | h
        · rw [i32_lt] at h l1
          have : (33 : Int32).toInt = 33 := by decide
          have : (0 : Int32).toInt = 0 := by decide
          omega
        · rw [i32_le] at h l2
          have : (126 : Int32).toInt = 126 := by decide
          have : (nI 127).toInt = 127 := by decide
          omega
      · refine ⟨m, ⟨?_, hm⟩, e⟩
        rw [e, nI_ltr (by omega) (by omega)] at l1
        omega
    refine c1_append (by omega) hm em hq (fun M1 hf hq1 => hQ _ _ ⟨hf.1 _ (by simp), fun Q q => hin ?_⟩)
    have g29 : M1.1 (29, 0, 0, 0) = M.1 (29, 0, 0, 0) := hf.1 _ (by simp)
    have g34 : M1.1 (34, 0, 0, 0) = M.1 (34, 0, 0, 0) := hf.1 _ (by simp)
    rw [g29, h29, if_neg (by rw [nI_eql (by omega) (by omega)]; exact h60)]
    refine ⟨vpT (by omega) (by omega), fun M43 e => ?_⟩
    rw [nI_clamp (by omega), mu_ne _ _ _ (by simp), g29, h29, nI_1] at e
    have k29 : M43.1 (29, 0, 0, 0) 4 = nI (n + 1) := by rw [e, mu_row, upd_at]
    have k34 : M43.1 (34, 0, 0, 0) = upd (M.1 (34, 0, 0, 0)) n a1 := by rw [e, mu_ne _ _ _ (by simp), mu_row, g34]
    have ko : ∀ i : ix, i.1 ≠ 29 → i.1 ≠ 34 → M43.1 i = M1.1 i := fun i h1 h2 => by rw [e, mu_ne _ _ _ (fun z => h1 (by rw [z])), mu_ne _ _ _ (fun z => h2 (by rw [z]))]
    rw [k29]
    refine q M43 (ko _ (by simp) (by simp)) ⟨hS.kp (fun i hi _ => ?_) (fun i hi => ?_), hI.kp (fun i hi _ => ?_) (fun i hi => ?_), n + 1, by omega, k29, ?_⟩
    · unfold inS at hi
      rw [ko i (by omega) (by omega), hf.1 i (by simp; omega)]
    · rw [ko i (by omega) (by omega), hf.1 i (by simp; omega)]
    · unfold inS at hi
      rw [ko i (by omega) (by omega), hf.1 i (by simp; omega)]
    · rw [ko i (by omega) (by omega), hf.1 i (by simp; omega)]
    · rw [k34]
      exact hq1.kp (fun i h1 h2 => ko i (by omega) (by omega))
theorem o_wipe {M : Mem} (hR : Rel M) {Q : Int32 → Mem → Prop} (hQ : ∀ r M1, OPK w_X9_wipe M r M1 → Q r M1) : w_X8_wipe Q M := by
  obtain ⟨hS, hI, n, hn, h29, hq⟩ := hR
  intro x ex
  rw [hq.1] at ex
  unfold w_X1_clear
  obtain ⟨Ma, ha⟩ : ∃ Ma, Ma = mu (mu (mu M (11, 0, 0, 0) 0 (0 : Int32)) (11, 0, 0, 0) 7 (0 : Int32)) (11, 0, 0, 0) 8 (-2000000 : Int32) := ⟨_, rfl⟩
  rw [← ha]
  rw [mu_of0 M, mu_mr, mu_mr] at ha
  have fa : onl M Ma qK := by rw [ha]; exact onl.mr _ (by simp)
  refine c1_await (r := 1) (T := []) rfl (by simp) ⟨by rw [ha, mr_at]; simp [upd]; rfl, trivial⟩ (fun M1 hf hp => hQ _ _ ⟨?_, fun Q q => ?_⟩)
  · rw [hf.1.1 _ (by simp), fa.1 _ (by simp)]
  · intro y ey
    have f1 : onl M M1 qK := fa.tr (hf.1.sub (by simp))
    rw [f1.1 _ (by simp), h29, ← ex] at ey
    rw [ey]
    have ko : ∀ i : ix, i.1 ≠ 29 → (mu M1 (29, 0, 0, 0) 4 0).1 i = M1.1 i := fun i h1 => mu_ne _ _ _ (fun z => h1 (by rw [z]))
    refine q _ (ko _ (by simp)) ⟨hS.kp (fun i hi _ => ?_) (fun i hi => ?_), hI.kp (fun i hi _ => ?_) (fun i hi => ?_), 0, by omega, by rw [mu_row, upd_at]; rfl, ?_⟩
    · unfold inS at hi
      rw [ko i (by omega), f1.1 i (by simp; omega)]
    · rw [ko i (by omega), f1.1 i (by simp; omega)]
    · unfold inS at hi
      rw [ko i (by omega), f1.1 i (by simp; omega)]
    · rw [ko i (by omega), f1.1 i (by simp; omega)]
    · rw [ko _ (by simp), f1.1 (34, 0, 0, 0) (by simp)]
      refine QI.kp (fun i h1 h2 => ko i (by omega)) ⟨?_, ?_, fun i hi => absurd hi (Nat.not_lt_zero i), Or.inl ⟨[1], rfl, ?_, hp.1, hp.2, fun k hk => absurd hk (Nat.not_lt_zero k), fun h => absurd h (by simp)⟩⟩
      · rw [hf.2 _ (by omega), ha, mr_at]; simp [upd]; rfl
      · rw [hf.1.1 _ (by simp), ha, mr_ne _ _ (by simp)]; exact hq.2.1
      · rw [hf.2 _ (by omega), ha, mr_at]; simp [upd]
