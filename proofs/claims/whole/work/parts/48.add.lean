/-! add, drop, anew -/
theorem frB.inS0 {M M1 : Mem} {b : Nat} (h : frB M M1 0 b) : ∀ i, inS i → 1 ≤ i.2.1 → M1.1 i = M.1 i := fun i _ h1 => h.1 i (fun hj => by have := hj.2.1; omega)
theorem frB.hi {M M1 : Mem} {s b : Nat} (h : frB M M1 s b) {i : ix} (hi : 10 ≤ i.1) : M1.1 i = M.1 i := h.1 i (fun hj => by have := hj.1; omega)
/-- a block of the store is changed, on both sides -/
theorem Rel.block {M M1 M2 : Mem} {b n : Nat} {rr kn : Nat → Int32} (hb : b < 6) (hR : Rel M) (hf : frB M M1 0 b) (ho : ∀ i : ix, i.1 ≠ 30 → i.1 ≠ 31 → i.1 ≠ 32 → i.1 ≠ 33 → M2.1 i = M1.1 i) (h30 : M2.1 (30, 0, 0, 0) = rr) (h32 : M2.1 (32, 0, 0, 0) = kn) (h31 : M2.1 (31, 0, 0, 0) b = nI n) (h31o : ∀ j, j ≠ b → M2.1 (31, 0, 0, 0) j = M.1 (31, 0, 0, 0) j) (hB : RB M1 0 b rr kn n) (hP : PB rr kn b n) (hro : ∀ j, (j < 32 * b ∨ 32 * b + 32 ≤ j) → rr j = M.1 (30, 0, 0, 0) j) (hko : ∀ j, (j < 48 * b ∨ 48 * b + 48 ≤ j) → kn j = M.1 (32, 0, 0, 0) j) : Rel M2 := by
  obtain ⟨⟨mn, hS⟩, hI, hq⟩ := hR
  have hs : ∀ i, inS i → M2.1 i = M1.1 i := fun i hi => by unfold inS at hi; exact ho i (by omega) (by omega) (by omega) (by omega)
  refine ⟨⟨fun j => if j = b then n else mn j, fun j hj => ?_⟩, ?_, ?_⟩
  · rw [h30, h32]
    by_cases e : j = b
    · subst e
      simp only [if_pos]
      exact ⟨h31, hB.kp (fun i hi _ => hs i hi), hP⟩
    · simp only [if_neg e]
      obtain ⟨g31, gB, gP⟩ := hS j hj
      have hn := gB.2.1
      refine ⟨by rw [h31o j e]; exact g31, ?_, ?_⟩
      · refine RB.kp (fun i hi _ => hs i hi) (RB.row (RB.oth hf (fun h => e h.2) gB) (fun q hq => ?_) (fun q hq => ?_))
        · exact hro _ (by omega)
        · exact hko _ (by omega)
      · exact gP.row (fun q hq => hro _ (by omega)) (fun q hq => hko _ (by omega))
  · refine hI.kp (fun i hi h1 => (hs i hi).trans (hf.inS0 i hi h1)) (fun i hi => ?_)
    rw [ho i (by omega) (by omega) (by omega) (by omega), hf.hi (by omega)]
  · refine hq.kp (fun i h1 h2 => ?_) (fun i hi => ?_)
    · rw [ho i (by omega) (by omega) (by omega) (by omega), hf.hi (by omega)]
    · rw [ho i (by omega) (by omega) (by omega) (by omega), hf.hi (by omega)]
theorem c8_isEntry {a : Int32} {Q : Int32 → Mem → Prop} {M : Mem} (h : ent a) (hQ : Q 1 M) : w_X8_isEntry a Q M := by
  unfold w_X8_isEntry
  rw [if_neg h.1, if_neg h.2]
  exact hQ
theorem ent0 {a : Int32} (h : ¬ ent a) : a < -999 ∨ 1000 < a := by
  by_cases h1 : a < -999
  · exact Or.inl h1
  · by_cases h2 : 1000 < a
    · exact Or.inr h2
    · exact absurd ⟨h1, h2⟩ h
theorem c8_isEntry0 {a : Int32} {Q : Int32 → Mem → Prop} {M : Mem} (h : ¬ ent a) (hQ : Q 0 M) : w_X8_isEntry a Q M := by
  unfold w_X8_isEntry
  by_cases h1 : a < -999
  · rw [if_pos h1]; exact hQ
  · rw [if_neg h1, if_pos ((ent0 h).resolve_left h1)]; exact hQ
theorem o_add {a1 a2 a3 a4 a5 : Int32} {M : Mem} (hR : Rel M) {Q : Int32 → Mem → Prop} (hQ : ∀ r M1, OPK (w_X9_add a1 a2 a3 a4 a5) M r M1 → Q r M1) : w_X8_add a1 a2 a3 a4 a5 Q M := by
  have hR0 := hR
  obtain ⟨⟨mn, hS⟩, -, -⟩ := hR
  rcases x6 a1 with h | ⟨b, hb, rfl⟩
  · refine c8_isBlock0 h ?_
    rw [if_pos rfl]
    refine hQ _ _ (OPK.same hR0 fun Q q => c9_isBlock0 h ?_)
    rw [if_pos rfl]
    exact q
  obtain ⟨h31, hB, hP⟩ := hS b hb
  have hn := hB.2.1
  refine c8_isBlock hb ?_
  rw [if_neg (by decide)]
  rcases (Classical.em (ent a2)).symm with e2 | e2
  · refine c8_isEntry0 e2 ?_
    rw [if_pos rfl]
    refine hQ _ _ (OPK.same hR0 fun Q q => c9_isBlock hb ?_)
    rw [if_neg (by decide)]
    refine c9_in0 (ent0 e2) ?_
    rw [if_pos rfl]
    exact q
  refine c8_isEntry e2 ?_
  rw [if_neg (by decide)]
  rcases (Classical.em (ent a3)).symm with e3 | e3
  · refine c8_isEntry0 e3 ?_
    rw [if_pos rfl]
    refine hQ _ _ (OPK.same hR0 fun Q q => c9_isBlock hb ?_)
    rw [if_neg (by decide)]
    refine c9_in1 e2.1 e2.2 ?_
    rw [if_neg (by decide)]
    refine c9_in0 (ent0 e3) ?_
    rw [if_pos rfl]
    exact q
  refine c8_isEntry e3 ?_
  rw [if_neg (by decide)]
  rcases (Classical.em (ent a4)).symm with e4 | e4
  · refine c8_isEntry0 e4 ?_
    rw [if_pos rfl]
    refine hQ _ _ (OPK.same hR0 fun Q q => c9_isBlock hb ?_)
    rw [if_neg (by decide)]
    refine c9_in1 e2.1 e2.2 ?_
    rw [if_neg (by decide)]
    refine c9_in1 e3.1 e3.2 ?_
    rw [if_neg (by decide)]
    refine c9_in0 (ent0 e4) ?_
    rw [if_pos rfl]
    exact q
  refine c8_isEntry e4 ?_
  rw [if_neg (by decide)]
  rcases (Classical.em (ent a5)).symm with e5 | e5
  · refine c8_isEntry0 e5 ?_
    rw [if_pos rfl]
    refine hQ _ _ (OPK.same hR0 fun Q q => c9_isBlock hb ?_)
    rw [if_neg (by decide)]
    refine c9_in1 e2.1 e2.2 ?_
    rw [if_neg (by decide)]
    refine c9_in1 e3.1 e3.2 ?_
    rw [if_neg (by decide)]
    refine c9_in1 e4.1 e4.2 ?_
    rw [if_neg (by decide)]
    refine c9_in0 (ent0 e5) ?_
    rw [if_pos rfl]
    exact q
  refine c8_isEntry e5 ?_
  rw [if_neg (by decide)]
  refine ⟨vpT (by omega) (by omega), ?_⟩
  rw [nI_clamp (by omega)]
  have pre : ∀ {Q : Int32 → Mem → Prop} {M1 : Mem}, (if (M1.1 (31, 0, 0, 0) b) = (8 : Int32) then (Q (-4 : Int32) M1) else (∃ k0 : Nat, w_X9_add_83 (nI b) a2 a3 a4 a5 Q k0 (0 : Int32) M1)) → w_X9_add (nI b) a2 a3 a4 a5 Q M1 := by
    intro Q M1 h
    refine c9_isBlock hb ?_
    rw [if_neg (by decide)]
    refine c9_in1 e2.1 e2.2 ?_
    rw [if_neg (by decide)]
    refine c9_in1 e3.1 e3.2 ?_
    rw [if_neg (by decide)]
    refine c9_in1 e4.1 e4.2 ?_
    rw [if_neg (by decide)]
    refine c9_in1 e5.1 e5.2 ?_
    rw [if_neg (by decide)]
    refine ⟨vpT (by omega) (by omega), ?_⟩
    rw [nI_clamp (by omega)]
    exact h
  by_cases h8 : mn b = 8
  · refine c0_append_full (by rw [hB.1, h8]) ?_
    refine hQ _ _ (OPK.same hR0 fun Q q => pre ?_)
    rw [h31, h8, if_pos (show nI 8 = 8 from rfl)]
    exact q
  · obtain ⟨a, ha0, ha1, ha2, ha3⟩ : ∃ a : Nat → Int32, a 0 = a2 ∧ a 1 = a3 ∧ a 2 = a4 ∧ a 3 = a5 := ⟨fun c => if c = 0 then a2 else if c = 1 then a3 else if c = 2 then a4 else a5, rfl, rfl, rfl, rfl⟩
    have hent : ∀ c, c < 4 → ent (a c) := fun c hc => by
      have : c = 0 ∨ c = 1 ∨ c = 2 ∨ c = 3 := by omega
      rcases this with h | h | h | h <;> subst h
      · rw [ha0]; exact e2
      · rw [ha1]; exact e3
      · rw [ha2]; exact e4
      · rw [ha3]; exact e5
    have hap := c0_append (s := 0) (b := b) (n := mn b) (a := a) (Q := Q) (by omega) hB (fun M1 hf hB1 => ?_)
    · rw [ha0, ha1, ha2, ha3] at hap
      exact hap
    · refine hQ _ _ ⟨hf.hi (by simp), fun Q q => pre ?_⟩
      have g30 : M1.1 (30, 0, 0, 0) = M.1 (30, 0, 0, 0) := hf.hi (by simp)
      have g31 : M1.1 (31, 0, 0, 0) = M.1 (31, 0, 0, 0) := hf.hi (by simp)
      have g32 : M1.1 (32, 0, 0, 0) = M.1 (32, 0, 0, 0) := hf.hi (by simp)
      rw [g31, h31, if_neg (by rw [nI_eql (by omega) (by omega)]; exact h8)]
      refine ⟨5, ?_⟩
      have h0 := c9_add_83 (a := a) (Q := Q) (M := M1) hb (by omega : mn b < 8) (by rw [g31]; exact h31) (fun c hc => by rw [g32]; exact (hP.2 c hc).1) ?_ 4 0 (by omega)
      · rw [ha0, ha1, ha2, ha3, rwA_0, mr_self] at h0
        rw [show adF a (M1.1 (32, 0, 0, 0)) b 0 = M1.1 (32, 0, 0, 0) from rfl, mr_self] at h0
        exact h0
      · rw [g30, g32]
        refine q _ ?_ ?_
        · rw [mu_ne _ _ _ (by simp), mr_ne _ _ (by simp), mr_ne _ _ (by simp)]
        · refine hR0.block (M1 := M1) hb hf (rr := rwA (M.1 (30, 0, 0, 0)) b (mn b) a 4) (kn := adF a (M.1 (32, 0, 0, 0)) b 4) (n := mn b + 1) (fun i q0 q1 q2 q3 => ?_) ?_ ?_ ?_ (fun j hj => ?_) hB1 (PB_add hP hent) (fun j hj => ?_) (fun j hj => adF_out (fun c hc => (hP.2 c hc).1) hj 4 (by omega))
          · rw [mu_ne _ _ _ (fun e => q1 (by rw [e])), mr_ne _ _ (fun e => q2 (by rw [e])), mr_ne _ _ (fun e => q0 (by rw [e]))]
          · rw [mu_ne _ _ _ (by simp), mr_ne _ _ (by simp), mr_at]
          · rw [mu_ne _ _ _ (by simp), mr_at]
          · rw [mu_row, upd_at]
          · rw [mu_row, upd_ne _ _ hj, mr_ne _ _ (by simp), mr_ne _ _ (by simp), g31]
          · unfold rwA
            rw [if_neg (by omega)]
theorem o_drop {a1 a2 : Int32} {M : Mem} (hR : Rel M) {Q : Int32 → Mem → Prop} (hQ : ∀ r M1, OPK (w_X9_drop a1 a2) M r M1 → Q r M1) : w_X8_drop a1 a2 Q M := by
  have hR0 := hR
  obtain ⟨⟨mn, hS⟩, -, -⟩ := hR
  rcases x6 a1 with h | ⟨b, hb, rfl⟩
  · refine c8_isRowB h ?_
    rw [if_pos rfl]
    refine hQ _ _ (OPK.same hR0 fun Q q => c9_isRowB h ?_)
    rw [if_pos rfl]
    exact q
  obtain ⟨h31, hB, hP⟩ := hS b hb
  have hn := hB.2.1
  rcases xn a2 (n := mn b) (by omega) with h | ⟨r, hr, rfl⟩
  · refine c8_isRow0 hb hB.1 h ?_
    rw [if_pos rfl]
    refine hQ _ _ (OPK.same hR0 fun Q q => c9_isRow0 hb hB.2.1 h31 h ?_)
    rw [if_pos rfl]
    exact q
  refine c8_isRow hb hB.2.1 hB.1 hr ?_
  rw [if_neg (by decide)]
  refine ⟨vpT (by omega) (by omega), ?_⟩
  rw [nI_clamp (by omega)]
  refine c0_remove hr hB (fun M1 hf hB1 => hQ _ _ ⟨hf.hi (by simp), fun Q q => ?_⟩)
  have g30 : M1.1 (30, 0, 0, 0) = M.1 (30, 0, 0, 0) := hf.hi (by simp)
  have g31 : M1.1 (31, 0, 0, 0) = M.1 (31, 0, 0, 0) := hf.hi (by simp)
  have g32 : M1.1 (32, 0, 0, 0) = M.1 (32, 0, 0, 0) := hf.hi (by simp)
  refine c9_isRow hb hn (by rw [g31]; exact h31) hr ?_
  rw [if_neg (by decide)]
  refine ⟨5, ?_⟩
  have h0 := c9_drop_13 (Q := Q) (M := M1) hb hn hr (by rw [g31]; exact h31) (fun c hc => by rw [g32]; exact (hP.2 c hc).1) (fun c hc => by rw [g30, g32]; exact (hP.1 r c hr hc).2) ?_ 4 0 (by omega)
  · rw [show ldF (M1.1 (30, 0, 0, 0)) (M1.1 (32, 0, 0, 0)) b r 0 = M1.1 (32, 0, 0, 0) from rfl, mr_self] at h0
    exact h0
  · rw [g30, g32]
    refine q _ ?_ ?_
    · rw [mr_ne _ _ (by simp), mu_ne _ _ _ (by simp), mr_ne _ _ (by simp)]
    · refine hR0.block (M1 := M1) hb hf (rr := rwD (M.1 (30, 0, 0, 0)) b r (mn b)) (kn := ldF (M.1 (30, 0, 0, 0)) (M.1 (32, 0, 0, 0)) b r 4) (n := mn b - 1) (fun i q0 q1 q2 q3 => ?_) ?_ ?_ ?_ (fun j hj => ?_) hB1 (PB_drop hP hr) (fun j hj => ?_) (fun j hj => ldF_out (fun c hc => (hP.2 c hc).1) hj 4 (by omega))
      · rw [mr_ne _ _ (fun e => q0 (by rw [e])), mu_ne _ _ _ (fun e => q1 (by rw [e])), mr_ne _ _ (fun e => q2 (by rw [e]))]
      · rw [mr_at]
      · rw [mr_ne _ _ (by simp), mu_ne _ _ _ (by simp), mr_at]
      · rw [mr_ne _ _ (by simp), mu_row, upd_at]
      · rw [mr_ne _ _ (by simp), mu_row, upd_ne _ _ hj, mr_ne _ _ (by simp), g31]
      · unfold rwD
        rw [if_neg (by omega)]
theorem o_anew {a1 : Int32} {M : Mem} (hR : Rel M) {Q : Int32 → Mem → Prop} (hQ : ∀ r M1, OPK (w_X9_anew a1) M r M1 → Q r M1) : w_X8_anew a1 Q M := by
  have hR0 := hR
  obtain ⟨⟨mn, hS⟩, -, -⟩ := hR
  rcases x6 a1 with h | ⟨b, hb, rfl⟩
  · refine c8_isBlock0 h ?_
    rw [if_pos rfl]
    refine hQ _ _ (OPK.same hR0 fun Q q => c9_isBlock0 h ?_)
    rw [if_pos rfl]
    exact q
  obtain ⟨h31, hB, hP⟩ := hS b hb
  have hn := hB.2.1
  refine c8_isBlock hb ?_
  rw [if_neg (by decide)]
  refine ⟨vpT (by omega) (by omega), ?_⟩
  rw [nI_clamp (by omega)]
  refine c0_renew hB (fun c hc => (hP.2 c hc).2) (fun M1 hf hB1 => hQ _ _ ⟨hf.hi (by simp), fun Q q => c9_isBlock hb ?_⟩)
  rw [if_neg (by decide)]
  have g30 : M1.1 (30, 0, 0, 0) = M.1 (30, 0, 0, 0) := hf.hi (by simp)
  have g31 : M1.1 (31, 0, 0, 0) = M.1 (31, 0, 0, 0) := hf.hi (by simp)
  have g32 : M1.1 (32, 0, 0, 0) = M.1 (32, 0, 0, 0) := hf.hi (by simp)
  refine ⟨5, c9_anew_13 (kn := M.1 (32, 0, 0, 0)) hb hn (fun c hc => (hP.2 c hc).1) (by rw [g31]; exact h31) (fun M2 hf2 h2 => ?_) 4 0 M1 (by omega) onl.rf (by rw [g32]; rfl)⟩
  rw [g30] at h2 ⊢
  refine q M2 (hf2.1 _ (by simp)) ?_
  refine hR0.block (M1 := M1) hb hf (rr := M.1 (30, 0, 0, 0)) (n := mn b) (fun i q0 q1 q2 q3 => hf2.1 _ (by simp [q2, q3])) ?_ h2 ?_ (fun j hj => ?_) hB1 (PB_anew hP) (fun j hj => rfl) (fun j hj => awF_out hj 4 (by omega))
  · rw [hf2.1 _ (by simp), g30]
  · rw [hf2.1 _ (by simp), g31]; exact h31
  · rw [hf2.1 _ (by simp), g31]
