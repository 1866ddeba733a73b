/-! layBlock; range, may -/
def trR (M : Mem) (j : Nat) : tri := (M.1 (42, 0, 0, 0) j, M.1 (43, 0, 0, 0) j, M.1 (44, 0, 0, 0) j)
theorem trR_tR (M : Mem) (j : Nat) : tR M j (trR M j) := ⟨rfl, fun _ => ⟨rfl, rfl⟩⟩
def RgR (M : Mem) (g : Nat → Int32) (n : Nat) (E : Nat → Nat) (S : bcx) (p : Nat) : Prop := ∀ k, p ≤ k → k < n → kd g k ≠ 0 → M.1 (42, 0, 0, 0) k = (rg g n E S k).1 ∧ (rol g k = 2 → tR M k (rg g n E S k))
abbrev lbK : List Nat := [42, 43, 44]
theorem bcR_kp {M M1 : Mem} {b : Nat} (h : ∀ i : ix, i.1 = 31 ∨ i.1 = 32 → M1.1 i = M.1 i) : bcR M1 b = bcR M b := by
  unfold bcR
  rw [h (31, 0, 0, 0) (by simp), h (32, 0, 0, 0) (by simp)]
theorem c9_layBlock_7 {g : Nat → Int32} {n : Nat} {E : Nat → Nat} {M0 : Mem} (hC : RC M0 g n E) {b : Nat} (hb : b < 6) {Q : Mem → Prop} (hQ : ∀ M1, onl M0 M1 lbK → RgR M1 g n E (bcR M0 b) 0 → Q M1) : ∀ p x M, x = dn p → p ≤ n → onl M0 M lbK → RgR M g n E (bcR M0 b) p → w_X9_layBlock_7 (nI b) Q (p + 1) x M := by
  intro p
  have hn := hC.2.2.2.2.1
  have hs := hC.2.2.2.2.2.1
  have hn60 := hC.1
  induction p with
  | zero =>
    intro x M hx hp hf hE
    rw [w_X9_layBlock_7, hx, if_pos dn_0]
    exact hQ M hf hE
  | succ q ih =>
    intro x M hx hp hf hE
    rw [dn_s] at hx
    have hC1 : RC M g n E := hC.kp (fun i h1 => hf.1 i (by simp; omega))
    rw [w_X9_layBlock_7, hx, if_neg (nI_nn (by omega)), nI_clamp (n := q) (by omega)]
    obtain ⟨y, hy⟩ : ∃ y, y = nI q + (-1) := ⟨_, rfl⟩
    rw [← hy]
    have v := vpT (show q < 60 by omega) (by omega)
    refine ⟨v, ?_⟩
    have hbc : bcR M b = bcR M0 b := bcR_kp (fun i hi => hf.1 i (by simp; omega))
    by_cases z : kd g q = 0
    · have h35 := hC1.2.2.2.2.2.2.2.1 q (by omega)
      unfold kdI at h35
      rw [h35, z, nz_0, if_pos rfl]
      refine ⟨v, ?_⟩
      rw [if_pos rfl]
      refine ih y M hy (by omega) hf (fun k hk hkn hz => ?_)
      by_cases e : k = q
      · subst e; exact absurd z hz
      · exact hE k (by omega) hkn hz
    have hle := kd_le g q
    have h35 := hC1.k35 (show q < n by omega) rfl z
    rw [h35, if_neg (nI_neN (by omega))]
    obtain ⟨s1, s2, -⟩ := sh hn hs (by omega : q < n) rfl z
    refine c9_isTerm hC1 (by omega) (fun h => absurd h z) (fun h => ?_) (fun h h2 => ?_)
    · rw [if_pos rfl]
      refine ⟨v, ?_⟩
      rw [h35, if_neg (nI_neN (by omega))]
      have rl : rol g q = 1 := by
        rcases kd_hi z with q | q
        · exact q.1
        · omega
      have next : ∀ w, w = (rg g n E (bcR M0 b) q).1 → w_X9_layBlock_7 (nI b) Q (q + 1) y (mu M (42, 0, 0, 0) q w) := by
        intro w hw
        refine ih y _ hy (by omega) (hf.tr (onl.mr _ (by simp))) (fun k hk hkn hz => ?_)
        unfold tR
        rw [mu_row, mu_ne _ _ _ (by simp), mu_ne _ _ _ (by simp)]
        by_cases e : k = q
        · subst e
          exact ⟨by rw [upd_at]; exact hw, fun h2 => absurd h2 (by omega)⟩
        · rw [upd_ne _ _ e]
          exact hE k (by omega) hkn hz
      by_cases h12 : 12 ≤ kd g q
      · refine c9_mayAt hC1 hb (by omega) rfl h (X := trR M (q + 1)) (Y := trR M (E (q + 1))) (fun _ => trR_tR _ _) (fun _ => trR_tR _ _) (fun h => by omega) (fun h => by omega) (fun h14 => ?_) ⟨v, next _ ?_⟩
        · obtain ⟨a, b2, d⟩ := s1 (by rw [h14]; decide)
          show t07 (M.1 (42, 0, 0, 0) (q + 1))
          rw [(hE (q + 1) (by omega) a b2).1]
          refine rg_7 hn hs a b2 ?_
          rw [d, h14]
          rfl
        · rw [hbc, rg_eq hn hs (by omega) z]
          rw [rgc_1 (x2 := rg g n E (bcR M0 b) (q + 1)) (y2 := rg g n E (bcR M0 b) (E (q + 1))) h12 hle (fun w => ?_) (fun w => ?_)]
          · have i1 : 1 ≤ innr (kd g q) := by
              have : kd g q = 12 ∨ kd g q = 13 ∨ kd g q = 14 := by omega
              rcases this with h | h | h <;> rw [h] <;> decide
            obtain ⟨a, b2, -⟩ := s1 i1
            exact (hE (q + 1) (by omega) a b2).1
          · have i1 : innr (kd g q) = 2 := by
              have : kd g q = 12 ∨ kd g q = 13 := by omega
              rcases this with h | h <;> rw [h] <;> decide
            obtain ⟨a, b2, d, -⟩ := s2 i1
            exact (hE (E (q + 1)) (by omega) b2 d).1
      · have i2 : innr (kd g q) = 2 := by
          have : kd g q = 10 ∨ kd g q = 11 := by omega
          rcases this with h | h <;> rw [h] <;> decide
        have pt : ptw (kd g q) = 2 := by
          unfold ptw
          rw [if_neg (by omega)]
        obtain ⟨a1, a2, a3⟩ := s1 (by omega)
        obtain ⟨b1, b2, b3, b4⟩ := s2 i2
        refine c9_mayAt hC1 hb (by omega) rfl h (X := rg g n E (bcR M0 b) (q + 1)) (Y := rg g n E (bcR M0 b) (E (q + 1))) (fun _ => (hE (q + 1) (by omega) a1 a2).2 (by rw [a3, pt])) (fun _ => (hE (E (q + 1)) (by omega) b2 b3).2 (by rw [b4, pt])) (fun _ => rg_3 hn hs a1 a2 (by rw [a3, pt])) (fun _ => rg_3 hn hs b2 b3 (by rw [b4, pt])) (fun h14 => by omega) ⟨v, next _ ?_⟩
        rw [hbc, rg_eq hn hs (by omega) z]
    · rw [if_neg (by decide)]
      have pt : ptw (kd g q) = 2 := by
        unfold ptw
        rw [if_neg (by omega)]
      have eR : rgc g E (bcR M b) q (kd g q) (rg g n E (bcR M0 b) (q + 1)) (rg g n E (bcR M0 b) (E (q + 1))) = rg g n E (bcR M0 b) q := by rw [hbc, rg_eq hn hs (by omega) z]
      have next : ∀ M2, onl M M2 lbK → (∀ j, j ≠ q → M2.1 (42, 0, 0, 0) j = M.1 (42, 0, 0, 0) j ∧ M2.1 (43, 0, 0, 0) j = M.1 (43, 0, 0, 0) j ∧ M2.1 (44, 0, 0, 0) j = M.1 (44, 0, 0, 0) j) → tR M2 q (rg g n E (bcR M0 b) q) → w_X9_layBlock_7 (nI b) Q (q + 1) y M2 := by
        intro M2 f2 ho ht
        refine ih y _ hy (by omega) (hf.tr f2) (fun k hk hkn hz => ?_)
        by_cases e : k = q
        · subst e
          exact ⟨ht.1, fun _ => ht⟩
        · obtain ⟨o1, o2, o3⟩ := ho k e
          unfold tR
          rw [o1, o2, o3]
          exact hE k (by omega) hkn hz
      refine c9_layRange hC1 hb (by omega) rfl h h2 (X := rg g n E (bcR M0 b) (q + 1)) (Y := rg g n E (bcR M0 b) (E (q + 1))) (fun w => ?_) (fun w => ?_) (fun w => ?_) (fun w => ?_) (fun w => ?_) (fun p hp => ?_)
      · obtain ⟨a, b2, d⟩ := s1 w
        exact (hE (q + 1) (by omega) a b2).2 (by rw [d, pt])
      · obtain ⟨a, b2, d, e⟩ := s2 w
        exact (hE (E (q + 1)) (by omega) b2 d).2 (by rw [e, pt])
      · obtain ⟨a, b2, d⟩ := s1 w
        exact rg_3 hn hs a b2 (by rw [d, pt])
      · obtain ⟨a, b2, d, e⟩ := s2 w
        exact rg_3 hn hs b2 d (by rw [e, pt])
      · rw [eR] at w ⊢
        refine next _ (onl.mr _ (by simp)) (fun j hj => ⟨by rw [mu_row, upd_ne _ _ hj], by rw [mu_ne _ _ _ (by simp)], by rw [mu_ne _ _ _ (by simp)]⟩) ⟨by rw [mu_row, upd_at], fun w2 => absurd w w2⟩
      · rw [eR] at hp ⊢
        unfold W3
        refine next _ (((onl.mr _ (by simp)).tr (onl.mr _ (by simp))).tr (onl.mr _ (by simp))) (fun j hj => ⟨?_, ?_, ?_⟩) ⟨?_, fun w2 => ?_⟩
        · rw [mu_ne _ _ _ (by simp), mu_ne _ _ _ (by simp), mu_row, upd_ne _ _ hj]
        · rw [mu_ne _ _ _ (by simp), mu_row, upd_ne _ _ hj, mu_ne _ _ _ (by simp)]
        · rw [mu_row, upd_ne _ _ hj, mu_ne _ _ _ (by simp), mu_ne _ _ _ (by simp)]
        · rw [mu_ne _ _ _ (by simp), mu_ne _ _ _ (by simp), mu_row, upd_at]
        · have := hp w2
          rw [mu_ne _ _ _ (by simp), mu_row, upd_at, mu_row, upd_at, this]
          exact ⟨rfl, rfl⟩
theorem c9_layBlock {g : Nat → Int32} {n : Nat} {E : Nat → Nat} {M : Mem} (hC : RC M g n E) {b : Nat} (hb : b < 6) {Q : Mem → Prop} (hQ : ∀ M1, onl M M1 lbK → RgR M1 g n E (bcR M b) 0 → Q M1) : w_X9_layBlock (nI b) Q M := by
  intro x e
  rw [hC.2.2.1, dn_of] at e
  have h := c9_layBlock_7 hC hb hQ n x M e (Nat.le_refl n) onl.rf (fun k h1 h2 => absurd h2 (by omega))
  exact ⟨n + 1, h⟩
theorem bc_eq {M : Mem} {b mn : Nat} (hB : RB M 0 b (M.1 (30, 0, 0, 0)) (M.1 (32, 0, 0, 0)) mn) (h31 : M.1 (31, 0, 0, 0) b = nI mn) : bcM M b = bcR M b := by
  unfold bcM bcR
  rw [hB.1, h31]
  refine Prod.ext (funext fun j => ?_) rfl
  dsimp only
  by_cases h : j < 4
  · obtain ⟨s0, s1, s2, -⟩ := hB.2.2.2 j h
    rw [if_pos h, if_pos h, s0, s1, s2]
  · rw [if_neg h, if_neg h]
theorem rg_N {g : Nat → Int32} {n : Nat} {E : Nat → Nat} {S : bcx} (hn : stk g n = some []) (hs : SQ g n E) {k : Nat} (hk : k < n) (hz : kd g k ≠ 0) (hr : rol g k = 2) (h1 : (rg g n E S k).1 &&& 1 = 0) : (rg g n E S k).2 = (-2000000, -2000000) := by
  rw [rg_eq hn hs hk hz] at h1 ⊢
  obtain ⟨c, hc⟩ : ∃ c, kd g k = c := ⟨_, rfl⟩
  have h9 : c ≤ 9 := by
    rcases kd_hi hz with h | h
    · omega
    · rw [← hc]; exact h.2
  rw [hc] at h1 hz ⊢
  rcases lt9 (c := c) (by omega) h9 with h | h | h | h | h | h | h | h | h <;> subst h
  · exact ndO_0 h1 _
  · exact absurd (show (1 : Int32) &&& 1 = 0 from h1) (by decide)
  · exact absurd (show (1 : Int32) &&& 1 = 0 from h1) (by decide)
  · exact ndO_0 h1 _
  · exact ndO_0 h1 _
  · exact ndO_0 h1 _
  · exact ndO_0 h1 _
  · exact ndO_0 h1 _
  · exact ndO_0 h1 _
theorem nI_m1g {n : Nat} (hn : n < 2 ^ 31) : (nI n - 1).toInt = (n : Int) - 1 := by
  rw [Int32.toInt_sub, nI_toInt hn, show (1 : Int32).toInt = 1 by decide]
  exact bm32 (by omega) (by omega)
theorem c9_inP {a : Int32} {p n : Nat} (hp : p < n) (hn : n ≤ 60) (ha : a = nI p) {Q : Int32 → Mem → Prop} {M : Mem} (hQ : Q 1 M) : w_X9_in a 0 (nI n - 1) Q M := by
  refine c9_in1 (by rw [ha]; exact nI_nn (by omega)) ?_ hQ
  rw [ha, i32_lt, nI_m1g (by omega), nI_toInt (by omega)]
  omega
theorem c9_inP0 {a : Int32} {n : Nat} (hn : n ≤ 60) (ha : a < 0 ∨ nI n ≤ a) {Q : Int32 → Mem → Prop} {M : Mem} (hQ : Q 0 M) : w_X9_in a 0 (nI n - 1) Q M := by
  refine c9_in0 (ha.imp id (fun h => lt_of_le_s ?_ h)) hQ
  rw [nI_m1g (by omega), nI_toInt (by omega)]
  omega
theorem c8_isPlace {p n : Nat} (hp : p < n) (hn : n ≤ 60) {Q : Int32 → Mem → Prop} {M : Mem} (h11 : M.1 (11, 0, 0, 0) 0 = nI n) (hQ : Q 1 M) : w_X8_isPlace (nI p) Q M := by
  unfold w_X8_isPlace
  rw [if_neg (nI_nn (by omega)), h11, if_neg (by rw [nI_leI (by omega) (by omega)]; omega)]
  exact hQ
theorem c8_isPlace0 {a : Int32} {n : Nat} (ha : a < 0 ∨ nI n ≤ a) {Q : Int32 → Mem → Prop} {M : Mem} (h11 : M.1 (11, 0, 0, 0) 0 = nI n) (hQ : Q 0 M) : w_X8_isPlace a Q M := by
  unfold w_X8_isPlace
  by_cases h : a < 0
  · rw [if_pos h]; exact hQ
  · rw [if_neg h, h11, if_pos (ha.resolve_left h)]; exact hQ
theorem rj_look {M M1 : Mem} (h : onl M M1 rjK) : look M M1 := onl.look h (by simp)
theorem lb_look {M M1 : Mem} (h : onl M M1 lbK) : look M M1 := onl.look h (by simp)
theorem bcR_look {M M1 : Mem} {b : Nat} (h : look M M1) : bcR M1 b = bcR M b := bcR_kp (fun i hi => h i (by omega))
/-- range -/
theorem o_range {a1 a2 a3 : Int32} {M : Mem} (hR : Rel M) {Q : Int32 → Mem → Prop} (hQ : ∀ r M1, OPK (w_X9_range a1 a2 a3) M r M1 → Q r M1) : w_X8_range a1 a2 a3 Q M := by
  have hR0 := hR
  obtain ⟨⟨mn, hS⟩, hI, n, hn, h29, hq⟩ := hR
  rcases x6 a1 with h | ⟨b, hb, rfl⟩
  · refine c8_isBlock0 h ?_
    rw [if_pos rfl]
    refine hQ _ _ (OPK.same hR0 fun Q q => c9_isBlock0 h ?_)
    rw [if_pos rfl]
    exact q
  obtain ⟨h31, hB, -⟩ := hS b hb
  have hm8 := hB.2.1
  refine c8_isBlock hb ?_
  rw [if_neg (by decide)]
  have pre : ∀ {Q : Int32 → Mem → Prop} {M1 : Mem}, M1.1 (29, 0, 0, 0) 4 = nI n → (w_X9_in a2 (0 : Int32) (nI n - 1)  (fun (r18 : Int32) (M18 : Mem) => (if r18 = 0 then (Q (-3000002 : Int32) M18) else (w_X9_in a3 (0 : Int32) (2 : Int32)  (fun (r27 : Int32) (M27 : Mem) => (if r27 = 0 then (Q (-3000002 : Int32) M27) else (w_X9_read  (fun (r37 : Int32) (M37 : Mem) => (if r37 = (-2000000 : Int32) then (vp_in (nI b) 6 ∧ (if (M37.1 (31, 0, 0, 0) (nI b).toNatClampNeg) = 0 then (Q (-3000003 : Int32) M37) else (w_X9_isTerm a2  (fun (r59 : Int32) (M59 : Mem) => (if r59 = 0 then (Q (-3000003 : Int32) M59) else (w_X9_layBlock (nI b)  (fun (M70 : Mem) => (vp_in a2 60 ∧ (if ((M70.1 (42, 0, 0, 0) a2.toNatClampNeg) &&& (1 : Int32)) = (1 : Int32) then (if a3 = 0 then (vp_in a2 60 ∧ (Q (M70.1 (42, 0, 0, 0) a2.toNatClampNeg) M70)) else (if (1 : Int32) = 0 then (Q (-2000000 : Int32) M70) else (if a3 = (1 : Int32) then (vp_in a2 60 ∧ (Q (M70.1 (43, 0, 0, 0) a2.toNatClampNeg) M70)) else (vp_in a2 60 ∧ (Q (M70.1 (44, 0, 0, 0) a2.toNatClampNeg) M70))))) else (if a3 = 0 then (vp_in a2 60 ∧ (Q (M70.1 (42, 0, 0, 0) a2.toNatClampNeg) M70)) else (if (0 : Int32) = 0 then (Q (-2000000 : Int32) M70) else (if a3 = (1 : Int32) then (vp_in a2 60 ∧ (Q (M70.1 (43, 0, 0, 0) a2.toNatClampNeg) M70)) else (vp_in a2 60 ∧ (Q (M70.1 (44, 0, 0, 0) a2.toNatClampNeg) M70)))))))) M59))) M37))) else (Q (-3000005 : Int32) M37))) M27))) M18))) M1) → w_X9_range (nI b) a2 a3 Q M1 := by
    intro Q M1 h29 h
    refine c9_isBlock hb ?_
    rw [if_neg (by decide), h29]
    exact h
  rcases xn a2 (n := n) (by omega) with h | ⟨p, hp, rfl⟩
  · refine c8_isPlace0 h hq.1 ?_
    rw [if_pos rfl]
    refine hQ _ _ (OPK.same hR0 fun Q q => pre h29 (c9_inP0 hn h ?_))
    rw [if_pos rfl]
    exact q
  refine c8_isPlace hp hn hq.1 ?_
  rw [if_neg (by decide)]
  rcases xn a3 (n := 3) (by omega) with h | ⟨w, hw, rfl⟩
  · have out : Q (-3000002) M := by
      refine hQ _ _ (OPK.same hR0 fun Q q => pre h29 (c9_inP hp hn rfl ?_))
      rw [if_neg (by decide)]
      refine c9_in0 (h.imp id (lt_of_le_s (by decide))) ?_
      rw [if_pos rfl]
      exact q
    by_cases h0 : a3 < 0
    · rw [if_pos h0]; exact out
    · rw [if_neg h0, if_neg (by rw [i32_nle]; exact lt_of_le_s (by decide) (h.resolve_left h0))]
      exact out
  rw [if_neg (nI_nn (by omega)), if_pos (by rw [nI_ler (by omega) (by omega)]; omega)]
  have pre2 : ∀ {Q : Int32 → Mem → Prop} {M1 : Mem}, M1.1 (29, 0, 0, 0) 4 = nI n → (w_X9_read  (fun (r37 : Int32) (M37 : Mem) => (if r37 = (-2000000 : Int32) then (vp_in (nI b) 6 ∧ (if (M37.1 (31, 0, 0, 0) (nI b).toNatClampNeg) = 0 then (Q (-3000003 : Int32) M37) else (w_X9_isTerm (nI p)  (fun (r59 : Int32) (M59 : Mem) => (if r59 = 0 then (Q (-3000003 : Int32) M59) else (w_X9_layBlock (nI b)  (fun (M70 : Mem) => (vp_in (nI p) 60 ∧ (if ((M70.1 (42, 0, 0, 0) (nI p).toNatClampNeg) &&& (1 : Int32)) = (1 : Int32) then (if nI w = 0 then (vp_in (nI p) 60 ∧ (Q (M70.1 (42, 0, 0, 0) (nI p).toNatClampNeg) M70)) else (if (1 : Int32) = 0 then (Q (-2000000 : Int32) M70) else (if nI w = (1 : Int32) then (vp_in (nI p) 60 ∧ (Q (M70.1 (43, 0, 0, 0) (nI p).toNatClampNeg) M70)) else (vp_in (nI p) 60 ∧ (Q (M70.1 (44, 0, 0, 0) (nI p).toNatClampNeg) M70))))) else (if nI w = 0 then (vp_in (nI p) 60 ∧ (Q (M70.1 (42, 0, 0, 0) (nI p).toNatClampNeg) M70)) else (if (0 : Int32) = 0 then (Q (-2000000 : Int32) M70) else (if nI w = (1 : Int32) then (vp_in (nI p) 60 ∧ (Q (M70.1 (43, 0, 0, 0) (nI p).toNatClampNeg) M70)) else (vp_in (nI p) 60 ∧ (Q (M70.1 (44, 0, 0, 0) (nI p).toNatClampNeg) M70)))))))) M59))) M37))) else (Q (-3000005 : Int32) M37))) M1) → w_X9_range (nI b) (nI p) (nI w) Q M1 := by
    intro Q M1 h29 h
    refine pre h29 (c9_inP hp hn rfl ?_)
    rw [if_neg (by decide)]
    refine c9_in1 (nI_nn (by omega)) (by rw [nI_ltl (by omega) (by omega)]; omega) ?_
    rw [if_neg (by decide)]
    exact h
  rcases hq.cases hn with ⟨E, hc, hf, -⟩ | ⟨v, hv, hf, -⟩
  · refine hf _ ?_
    rw [if_pos rfl, nI_clamp (n := b) (by omega), nI_clamp (n := p) (by omega)]
    refine ⟨vpT (by omega) (by omega), ?_⟩
    have hst := hc.2.2.2.2.1
    have hs := hc.2.2.2.2.2.1
    rw [hB.1, hc.2.2.2.2.2.2.2.1 p hp]
    by_cases m0 : mn b = 0
    · rw [m0, if_pos (show nI 0 = 0 from rfl)]
      refine hQ _ _ ⟨rfl, fun Q q => pre2 h29 (c9_readE hn hst hs h29 rfl (fun M2 f2 rr => ?_))⟩
      rw [if_pos rfl, nI_clamp (n := b) (by omega), f2.1 (31, 0, 0, 0) (by simp), h31, m0, if_pos (show nI 0 = 0 from rfl)]
      exact ⟨vpT (by omega) (by omega), q M2 (f2.1 _ (by simp)) (hR0.look (rd_look f2))⟩
    rw [if_neg (nI_ne0 (by omega) (by omega))]
    refine ⟨vpT (by omega) (by omega), ?_⟩
    obtain ⟨r, T, est, -⟩ := hs p hp
    have hr5 := stk_mem p _ est r (by simp)
    have hrl := rol_of est
    rw [hrl]
    have hm0 : ∀ M2 : Mem, onl M M2 rdK → ¬ M2.1 (31, 0, 0, 0) b = 0 := fun M2 f2 => by rw [f2.1 _ (by simp), h31]; exact nI_ne0 (by omega) (by omega)
    by_cases r2 : r = 2
    · subst r2
      rw [if_pos (show nI 2 = 2 from rfl)]
      have hz := kd_nz hst hp est (by omega)
      refine ⟨vpT (by omega) (by omega), c2_judge hc (fun M1 f1 hg => ?_)⟩
      have hcl := hg p (by omega) hp hz
      have htr := hcl.2 hrl
      have hS2 : bcM M b = bcR M b := bc_eq hB h31
      rw [hS2] at htr
      have key : ∀ x, (w = 0 → x = (rg (M.1 (34, 0, 0, 0)) n E (bcR M b) p).1) → (w = 1 → x = (rg (M.1 (34, 0, 0, 0)) n E (bcR M b) p).2.1) → (w = 2 → x = (rg (M.1 (34, 0, 0, 0)) n E (bcR M b) p).2.2) → Q x M1 := by
        intro x w0 w1 w2
        have g29 : M1.1 (29, 0, 0, 0) 4 = nI n := by rw [f1.1 _ (by simp)]; exact h29
        refine hQ _ _ ⟨f1.1 _ (by simp), fun Q q => pre2 g29 (c9_readE hn hst hs g29 (by rw [f1.1 _ (by simp)]) (fun M2 f2 rr => ?_))⟩
        have hrc : RC M2 (M.1 (34, 0, 0, 0)) n E := hc.rc g29 (by rw [f1.1 _ (by simp)]) f2 rr
        have l2 : look M M2 := (rj_look f1).tr (rd_look f2)
        rw [if_pos rfl, nI_clamp (n := b) (by omega)]
        refine ⟨vpT (by omega) (by omega), ?_⟩
        rw [l2 (31, 0, 0, 0) (by simp), h31, if_neg (nI_ne0 (by omega) (by omega))]
        have k9 : kd (M.1 (34, 0, 0, 0)) p ≤ 9 := by
          rcases kd_hi hz with h | h
          · omega
          · exact h.2
        refine c9_isTerm hrc hp (fun h => absurd h hz) (fun h => by omega) (fun _ _ => ?_)
        rw [if_neg (by decide)]
        refine c9_layBlock hrc hb (fun M3 f3 hg3 => ?_)
        obtain ⟨e42, t3⟩ := hg3 p (by omega) hp hz
        have t3 := t3 hrl
        rw [bcR_look l2] at e42 t3
        have fin : Q x M3 := q M3 (by rw [f3.1 _ (by simp), f2.1 _ (by simp)]) (hR0.look (l2.tr (lb_look f3)))
        have h3 := rg_3 (S := bcR M b) hst hs hp hz hrl
        have bi : (rg (M.1 (34, 0, 0, 0)) n E (bcR M b) p).1 &&& 1 = 1 ↔ ¬ (rg (M.1 (34, 0, 0, 0)) n E (bcR M b) p).1 &&& 1 = 0 := by
          rcases h3 with h | h | h | h <;> rw [h] <;> decide
        rw [nI_clamp (n := p) (by omega), e42]
        refine ⟨vpT (by omega) (by omega), ?_⟩
        by_cases w00 : w = 0
        · have e := w0 w00
          subst w00
          rw [if_pos (show nI 0 = 0 from rfl), if_pos (show nI 0 = 0 from rfl)]
          rw [e] at fin
          split <;> exact ⟨vpT (by omega) (by omega), fin⟩
        have nw : ¬ nI w = 0 := nI_ne0 (by omega) (by omega)
        rw [if_neg nw, if_neg nw]
        by_cases z : (rg (M.1 (34, 0, 0, 0)) n E (bcR M b) p).1 &&& 1 = 0
        · rw [if_neg (fun y => bi.mp y z), if_pos rfl]
          have eN := rg_N hst hs hp hz hrl z
          rw [eN] at w1 w2
          have ex : x = -2000000 := by
            have : w = 1 ∨ w = 2 := by omega
            rcases this with h | h
            · exact w1 h
            · exact w2 h
          rw [ex] at fin
          exact fin
        · rw [if_pos (bi.mpr z), if_neg (by decide)]
          obtain ⟨u1, u2⟩ := t3.2 z
          rw [u1, u2]
          by_cases w11 : w = 1
          · have e := w1 w11
            subst w11
            rw [if_pos (show nI 1 = 1 from rfl)]
            rw [e] at fin
            exact ⟨vpT (by omega) (by omega), fin⟩
          · have e := w2 (by omega)
            have : w = 2 := by omega
            subst this
            rw [if_neg (show ¬ nI 2 = 1 by decide)]
            rw [e] at fin
            exact ⟨vpT (by omega) (by omega), fin⟩
      have t21 : M1.1 (21, 0, 0, 0) p = (rg (M.1 (34, 0, 0, 0)) n E (bcR M b) p).1 := by rw [← htr]; rfl
      have t22 : M1.1 (22, 0, 0, 0) p = (rg (M.1 (34, 0, 0, 0)) n E (bcR M b) p).2.1 := by rw [← htr]; rfl
      have t23 : M1.1 (23, 0, 0, 0) p = (rg (M.1 (34, 0, 0, 0)) n E (bcR M b) p).2.2 := by rw [← htr]; rfl
      by_cases w00 : w = 0
      · subst w00
        rw [if_pos (show nI 0 = 0 from rfl)]
        exact ⟨vpT (by omega) (by omega), key _ (fun _ => t21) (fun h => absurd h (by omega)) (fun h => absurd h (by omega))⟩
      rw [if_neg (nI_ne0 (by omega) (by omega))]
      by_cases w11 : w = 1
      · subst w11
        rw [if_pos (show nI 1 = 1 from rfl)]
        exact ⟨vpT (by omega) (by omega), key _ (fun h => absurd h (by omega)) (fun _ => t22) (fun h => absurd h (by omega))⟩
      · have : w = 2 := by omega
        subst this
        rw [if_neg (show ¬ nI 2 = 1 by decide)]
        exact ⟨vpT (by omega) (by omega), key _ (fun h => absurd h (by omega)) (fun h => absurd h (by omega)) (fun _ => t23)⟩
    · rw [if_neg (show ¬ nI r = 2 from nIne (by omega) (by decide) r2)]
      refine hQ _ _ ⟨rfl, fun Q q => pre2 h29 (c9_readE hn hst hs h29 rfl (fun M2 f2 rr => ?_))⟩
      have hrc : RC M2 (M.1 (34, 0, 0, 0)) n E := hc.rc h29 rfl f2 rr
      have fin : Q (-3000003) M2 := q M2 (f2.1 _ (by simp)) (hR0.look (rd_look f2))
      rw [if_pos rfl, nI_clamp (n := b) (by omega)]
      refine ⟨vpT (by omega) (by omega), ?_⟩
      rw [if_neg (hm0 M2 f2)]
      refine c9_isTerm hrc hp (fun h => ?_) (fun h => ?_) (fun h h2 => ?_)
      · rw [if_pos rfl]; exact fin
      · rw [if_pos rfl]; exact fin
      · rcases kd_hi (show kd (M.1 (34, 0, 0, 0)) p ≠ 0 by omega) with h | h
        · omega
        · omega
  · refine hf _ ?_
    rw [if_neg (by decide)]
    refine hQ _ _ ⟨rfl, fun Q q => pre2 h29 (c9_readF hn hv h29 rfl (fun M2 f2 => ?_))⟩
    rw [if_neg (hv.nN hn)]
    exact q M2 (f2.1 _ (by simp)) (hR0.look (rd_look f2))
/-- may -/
theorem o_may {a1 a2 : Int32} {M : Mem} (hR : Rel M) {Q : Int32 → Mem → Prop} (hQ : ∀ r M1, OPK (w_X9_may a1 a2) M r M1 → Q r M1) : w_X8_may a1 a2 Q M := by
  have hR0 := hR
  obtain ⟨⟨mn, hS⟩, hI, n, hn, h29, hq⟩ := hR
  rcases x6 a1 with h | ⟨b, hb, rfl⟩
  · refine c8_isBlock0 h ?_
    rw [if_pos rfl]
    refine hQ _ _ (OPK.same hR0 fun Q q => c9_isBlock0 h ?_)
    rw [if_pos rfl]
    exact q
  obtain ⟨h31, hB, -⟩ := hS b hb
  have hm8 := hB.2.1
  refine c8_isBlock hb ?_
  rw [if_neg (by decide)]
  rcases xn a2 (n := n) (by omega) with h | ⟨p, hp, rfl⟩
  · refine c8_isPlace0 h hq.1 ?_
    rw [if_pos rfl]
    refine hQ _ _ (OPK.same hR0 fun Q q => c9_isBlock hb ?_)
    rw [if_neg (by decide), h29]
    refine c9_inP0 hn h ?_
    rw [if_pos rfl]
    exact q
  refine c8_isPlace hp hn hq.1 ?_
  rw [if_neg (by decide)]
  have pre2 : ∀ {Q : Int32 → Mem → Prop} {M1 : Mem}, M1.1 (29, 0, 0, 0) 4 = nI n → (w_X9_read  (fun (r27 : Int32) (M27 : Mem) => (if r27 = (-2000000 : Int32) then (vp_in (nI b) 6 ∧ (if (M27.1 (31, 0, 0, 0) (nI b).toNatClampNeg) = 0 then (Q (-3 : Int32) M27) else (vp_in (nI p) 60 ∧ (if (10 : Int32) ≤ (M27.1 (35, 0, 0, 0) (nI p).toNatClampNeg) then (w_X9_layBlock (nI b)  (fun (M63 : Mem) => (vp_in (nI p) 60 ∧ (Q (M63.1 (42, 0, 0, 0) (nI p).toNatClampNeg) M63))) M27) else (Q (-3 : Int32) M27))))) else (Q (-5 : Int32) M27))) M1) → w_X9_may (nI b) (nI p) Q M1 := by
    intro Q M1 h29 h
    refine c9_isBlock hb ?_
    rw [if_neg (by decide), h29]
    refine c9_inP hp hn rfl ?_
    rw [if_neg (by decide)]
    exact h
  rcases hq.cases hn with ⟨E, hc, hf, -⟩ | ⟨v, hv, hf, -⟩
  · refine hf _ ?_
    rw [if_pos rfl, nI_clamp (n := b) (by omega), nI_clamp (n := p) (by omega)]
    refine ⟨vpT (by omega) (by omega), ?_⟩
    have hst := hc.2.2.2.2.1
    have hs := hc.2.2.2.2.2.1
    rw [hB.1, hc.2.2.2.2.2.2.2.1 p hp]
    by_cases m0 : mn b = 0
    · rw [m0, if_pos (show nI 0 = 0 from rfl)]
      refine hQ _ _ ⟨rfl, fun Q q => pre2 h29 (c9_readE hn hst hs h29 rfl (fun M2 f2 rr => ?_))⟩
      rw [if_pos rfl, nI_clamp (n := b) (by omega), f2.1 (31, 0, 0, 0) (by simp), h31, m0, if_pos (show nI 0 = 0 from rfl)]
      exact ⟨vpT (by omega) (by omega), q M2 (f2.1 _ (by simp)) (hR0.look (rd_look f2))⟩
    rw [if_neg (nI_ne0 (by omega) (by omega))]
    refine ⟨vpT (by omega) (by omega), ?_⟩
    obtain ⟨r, T, est, -⟩ := hs p hp
    have hr5 := stk_mem p _ est r (by simp)
    have hrl := rol_of est
    rw [hrl]
    by_cases r1 : r = 1
    · subst r1
      rw [if_pos (show nI 1 = 1 from rfl)]
      have hz := kd_nz hst hp est (by omega)
      have k10 : 10 ≤ kd (M.1 (34, 0, 0, 0)) p := by
        rcases kd_hi hz with h | h
        · exact h.2
        · omega
      have k15 := kd_le (M.1 (34, 0, 0, 0)) p
      refine ⟨vpT (by omega) (by omega), c2_judge hc (fun M1 f1 hg => ⟨vpT (by omega) (by omega), ?_⟩)⟩
      have hcl := (hg p (by omega) hp hz).1
      rw [bc_eq hB h31] at hcl
      have g29 : M1.1 (29, 0, 0, 0) 4 = nI n := by rw [f1.1 _ (by simp)]; exact h29
      rw [hcl]
      refine hQ _ _ ⟨f1.1 _ (by simp), fun Q q => pre2 g29 (c9_readE hn hst hs g29 (by rw [f1.1 _ (by simp)]) (fun M2 f2 rr => ?_))⟩
      have hrc : RC M2 (M.1 (34, 0, 0, 0)) n E := hc.rc g29 (by rw [f1.1 _ (by simp)]) f2 rr
      have l2 : look M M2 := (rj_look f1).tr (rd_look f2)
      rw [if_pos rfl, nI_clamp (n := b) (by omega), nI_clamp (n := p) (by omega)]
      refine ⟨vpT (by omega) (by omega), ?_⟩
      rw [l2 (31, 0, 0, 0) (by simp), h31, if_neg (nI_ne0 (by omega) (by omega)), hrc.k35 hp rfl hz, if_pos (by rw [nI_lel (by omega) (by omega)]; exact k10)]
      refine ⟨vpT (by omega) (by omega), c9_layBlock hrc hb (fun M3 f3 hg3 => ⟨vpT (by omega) (by omega), ?_⟩)⟩
      have e42 := (hg3 p (by omega) hp hz).1
      rw [bcR_look l2] at e42
      rw [e42]
      exact q M3 (by rw [f3.1 _ (by simp), f2.1 _ (by simp)]) (hR0.look (l2.tr (lb_look f3)))
    · rw [if_neg (show ¬ nI r = 1 from nIne (by omega) (by decide) r1)]
      refine hQ _ _ ⟨rfl, fun Q q => pre2 h29 (c9_readE hn hst hs h29 rfl (fun M2 f2 rr => ?_))⟩
      have hrc : RC M2 (M.1 (34, 0, 0, 0)) n E := hc.rc h29 rfl f2 rr
      have fin : Q (-3) M2 := q M2 (f2.1 _ (by simp)) (hR0.look (rd_look f2))
      rw [if_pos rfl, nI_clamp (n := b) (by omega), nI_clamp (n := p) (by omega), f2.1 (31, 0, 0, 0) (by simp), h31, if_neg (nI_ne0 (by omega) (by omega))]
      refine ⟨vpT (by omega) (by omega), vpT (by omega) (by omega), ?_⟩
      have k35 : M2.1 (35, 0, 0, 0) p = nz (kd (M.1 (34, 0, 0, 0)) p) := hrc.2.2.2.2.2.2.2.1 p hp
      rw [k35]
      by_cases z : kd (M.1 (34, 0, 0, 0)) p = 0
      · rw [z, nz_0, if_neg (by decide)]; exact fin
      · rcases kd_hi z with h | h
        · omega
        · rw [nz_p z, if_neg (by rw [nI_lel (by omega) (by omega)]; omega)]; exact fin
  · refine hf _ ?_
    rw [if_neg (by decide)]
    refine hQ _ _ ⟨rfl, fun Q q => pre2 h29 (c9_readF hn hv h29 rfl (fun M2 f2 => ?_))⟩
    rw [if_neg (hv.nN hn)]
    exact q M2 (f2.1 _ (by simp)) (hR0.look (rd_look f2))
