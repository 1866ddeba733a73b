/-! the class: ranges of all places -/
def bcM (M : Mem) (b : Nat) : bcx := (fun j => if j < 4 then (M.1 (7, 0, b, j) 2, M.1 (7, 0, b, j) 0, M.1 (7, 0, b, j) 1) else (0, 0, 0), M.1 (3, 0, b, 0) 0)
theorem cxT_ix {S : bcx} {s : Int32} {j : Nat} (h : s - 97 = nI j) (hj : j < 4) : cxT S s = S.1 j := by
  unfold cxT
  rw [h, nI_clamp (by omega)]
theorem kC_if {ms rows : Int32} {P : Int32 → Prop} (h : P (kC ms rows)) : (if ms ≤ 0 then (if rows ≤ ms then P 0 else P ((0 : Int32) ||| (1 : Int32))) else (if rows ≤ ms then P 2 else P ((2 : Int32) ||| (1 : Int32)))) := by
  unfold kC at h
  by_cases a : ms ≤ 0
  · rw [if_pos a] at h ⊢
    by_cases b : rows ≤ ms
    · rw [if_pos b] at h ⊢; exact h
    · rw [if_neg b] at h ⊢; exact h
  · rw [if_neg a] at h ⊢
    by_cases b : rows ≤ ms
    · rw [if_pos b] at h ⊢; exact h
    · rw [if_neg b] at h ⊢; exact h
theorem mC_if {ms rows : Int32} {P : Int32 → Prop} (h : P (mC ms rows)) : (if ms ≤ 0 then (if rows ≤ ms then P 0 else P ((0 : Int32) ||| (2 : Int32))) else (if rows ≤ ms then P 1 else P ((1 : Int32) ||| (2 : Int32)))) := by
  unfold mC at h
  by_cases a : ms ≤ 0
  · rw [if_pos a] at h ⊢
    by_cases b : rows ≤ ms
    · rw [if_pos b] at h ⊢; exact h
    · rw [if_neg b] at h ⊢; exact h
  · rw [if_neg a] at h ⊢
    by_cases b : rows ≤ ms
    · rw [if_pos b] at h ⊢; exact h
    · rw [if_neg b] at h ⊢; exact h
theorem sgO_nl {c : Nat} (h3 : 3 ≤ c) (h9 : c ≤ 9) : ¬ isL (sgO c) ∧ ¬ isD (sgO c) := by
  have h : c = 3 ∨ c = 4 ∨ c = 5 ∨ c = 6 ∨ c = 7 ∨ c = 8 ∨ c = 9 := by omega
  rcases h with h | h | h | h | h | h | h <;> subst h <;> exact ⟨by decide, by decide⟩
theorem c2_kindAt {M : Mem} {g : Nat → Int32} {n : Nat} {E : Nat → Nat} (hC : CQ M g n E) {b q c : Nat} (hq : q < n) (hc : kd g q = c) (h1 : 1 ≤ c) (h9 : c ≤ 9) {Q : Int32 → Mem → Prop} (hQ : Q (rgc g E (bcM M b) q c (trM M (q + 1)) (trM M (E (q + 1)))).1 M) : w_X2_kindAt (nI q) 0 b Q M := by
  have hCC := hC
  obtain ⟨hn60, -, h11, h12, hn, hs, hsg, h13, h14⟩ := hC
  have hz : c ≠ 0 := by omega
  obtain ⟨s1, s2, -, -, s5, -⟩ := sh hn hs hq hc hz
  unfold w_X2_kindAt
  rw [nI_clamp (n := q) (by omega), h12, nI_1]
  refine ⟨vpT (by omega) (by omega), fun x3 e3 => ?_⟩
  subst e3
  rcases kd_s hc hz with ⟨e, hl⟩ | ⟨e, hd, hl⟩ | ⟨h3, hsn⟩
  · subst e
    refine c8_isLetter (fun _ => ?_) (fun h => absurd hl h)
    rw [if_neg (by decide)]
    obtain ⟨j, j1, j2, j3, j4⟩ := isL_ix (hsg q hq) hl
    have hQ : Q (kC (cxT (bcM M b) (g q)).1 (bcM M b).2) M := hQ
    rw [cxT_ix j2 j1, show (bcM M b).1 j = (M.1 (7, 0, b, j) 2, M.1 (7, 0, b, j) 0, M.1 (7, 0, b, j) 1) from if_pos j1] at hQ
    rw [j2, nI_clamp (by omega)]
    refine ⟨vpT (by omega) (by omega), fun x4 e4 => ?_⟩
    subst e4
    exact kC_if (P := fun v => Q v M) hQ
  · subst e
    refine c8_isLetter (fun h => absurd h hl) (fun _ => ?_)
    rw [if_pos rfl]
    refine c8_isFigure (fun _ => ?_) (fun h => absurd hd h)
    rw [if_neg (by decide)]
    exact hQ
  · have nl := sgO_nl h3 h9
    rw [hsn]
    refine c8_isLetter (fun h => absurd h nl.1) (fun _ => ?_)
    rw [if_pos rfl]
    refine c8_isFigure (fun h => absurd h nl.2) (fun _ => ?_)
    rw [if_pos rfl]
    by_cases c3 : c = 3
    · subst c3
      rw [if_pos (show sgO 3 = 35 by decide)]
      exact hQ
    have h : c = 4 ∨ c = 8 ∨ c = 9 ∨ c = 5 ∨ c = 6 ∨ c = 7 := by omega
    have i1 : 1 ≤ innr c := by
      rcases h with h | h | h | h | h | h <;> subst h <;> decide
    have n35 : ¬ sgO c = 35 := by
      rcases h with h | h | h | h | h | h <;> subst h <;> decide
    obtain ⟨a1, a2, a3⟩ := s1 i1
    rw [if_neg n35]
    refine c8_atp (by omega) rfl ?_
    refine c8_isSum (fun hsm => ?_) (fun hsm => ?_)
    · rw [if_neg (by decide)]
      have i2 : innr c = 2 := by
        rcases h with h | h | h | h | h | h <;> subst h <;> first | rfl | exact absurd hsm (by decide)
      obtain ⟨b1, b2, b3, b4⟩ := s2 i2
      refine ⟨vpT (by omega) (by omega), c8_atp (by omega) ((h14 q hq).1 a1) ?_⟩
      rcases h with h | h | h | h | h | h <;> subst h
      · exact absurd i2 (by decide)
      · exact absurd i2 (by decide)
      · exact absurd i2 (by decide)
      · exact hQ
      · exact hQ
      · exact hQ
    · rw [if_pos rfl]
      rcases h with h | h | h | h | h | h <;> subst h
      · exact hQ
      · exact hQ
      · exact hQ
      · exact absurd (by decide) hsm
      · exact absurd (by decide) hsm
      · exact absurd (by decide) hsm
theorem ndO_0 {k : Int32} (h : k &&& 1 = 0) (p : Int32 × Int32) : ndO k p = (-2000000, -2000000) := if_pos h
theorem ndO_1 {k : Int32} (h : ¬ k &&& 1 = 0) (p : Int32 × Int32) : ndO k p = p := if_neg h
theorem c2_findBounds {M M0 : Mem} {g : Nat → Int32} {n : Nat} {E : Nat → Nat} (hC : CQ M0 g n E) {b q c : Nat} (hq : q < n) (hc : kd g q = c) (h1 : 1 ≤ c) (h9 : c ≤ 9) {K : Int32} (hM : M = mu M0 (21, 0, 0, 0) q K) (hK : K = (rgc g E (bcM M0 b) q c (trM M0 (q + 1)) (trM M0 (E (q + 1)))).1) {Q : Mem → Prop} (hQ : Q (sB M q (rgc g E (bcM M0 b) q c (trM M0 (q + 1)) (trM M0 (E (q + 1)))).2)) : w_X2_findBounds (nI q) 0 b Q M := by
  have hf : onl M0 M [21] := by rw [hM]; exact onl.mr _ (by simp)
  have hC1 : CQ M g n E := hC.kp (fun i h1 h2 => hf.1 i (by simp; omega))
  obtain ⟨hn60, -, h11, h12, hn, hs, hsg, h13, h14⟩ := hC1
  have hz : c ≠ 0 := by omega
  obtain ⟨s1, s2, -, -, s5, -⟩ := sh hn hs hq hc hz
  have hnum := (h14 q hq).2
  rw [hc] at hnum
  have m21 : M.1 (21, 0, 0, 0) q = K := by rw [hM, mu_row, upd_at]
  have m22 : M.1 (22, 0, 0, 0) = M0.1 (22, 0, 0, 0) := hf.1 _ (by simp)
  have m23 : M.1 (23, 0, 0, 0) = M0.1 (23, 0, 0, 0) := hf.1 _ (by simp)
  unfold w_X2_findBounds
  rw [nI_clamp (n := q) (by omega), h12, nI_1, m21]
  refine ⟨vpT (by omega) (by omega), fun x3 e3 => ⟨vpT (by omega) (by omega), ?_⟩⟩
  subst e3
  by_cases k1 : K &&& 1 = 0
  · rw [if_pos k1]
    refine c2_setBounds (by omega) ?_
    have e : (rgc g E (bcM M0 b) q c (trM M0 (q + 1)) (trM M0 (E (q + 1)))).2 = (-2000000, -2000000) := by
      rw [hK] at k1
      rcases lt9 h1 h9 with h | h | h | h | h | h | h | h | h <;> subst h
      · exact ndO_0 k1 _
      · exact absurd (show (1 : Int32) &&& 1 = 0 from k1) (by decide)
      · exact absurd (show (1 : Int32) &&& 1 = 0 from k1) (by decide)
      · exact ndO_0 k1 _
      · exact ndO_0 k1 _
      · exact ndO_0 k1 _
      · exact ndO_0 k1 _
      · exact ndO_0 k1 _
      · exact ndO_0 k1 _
    rw [e] at hQ
    exact hQ
  rw [if_neg k1]
  rw [hK] at k1
  rcases kd_s hc hz with ⟨e, hl⟩ | ⟨e, hd, hl⟩ | ⟨h3, hsn⟩
  · subst e
    refine c8_isLetter (fun _ => ?_) (fun h => absurd hl h)
    rw [if_neg (by decide)]
    obtain ⟨j, j1, j2, j3, j4⟩ := isL_ix (hsg q hq) hl
    rw [show (rgc g E (bcM M0 b) q 1 (trM M0 (q + 1)) (trM M0 (E (q + 1)))).2 = (cxT (bcM M0 b) (g q)).2 from ndO_1 k1 _, cxT_ix j2 j1, show (bcM M0 b).1 j = (M0.1 (7, 0, b, j) 2, M0.1 (7, 0, b, j) 0, M0.1 (7, 0, b, j) 1) from if_pos j1] at hQ
    rw [j2, nI_clamp (by omega), hf.1 (7, 0, b, j) (by simp)]
    exact ⟨vpT (by omega) (by omega), c2_setBounds (by omega) hQ⟩
  · subst e
    refine c8_isLetter (fun h => absurd h hl) (fun _ => ?_)
    rw [if_pos rfl]
    have ns : ∀ x : Int32, isD x → ¬ x = 37 ∧ ¬ x = 42 ∧ ¬ x = 43 ∧ ¬ x = 45 ∧ ¬ x = 121 ∧ ¬ x = 126 := fun x hx => by
      refine ⟨?_, ?_, ?_, ?_, ?_, ?_⟩ <;> (intro h; subst h; exact absurd hx (by decide))
    obtain ⟨n1, n2, n3, n4, n5, n6⟩ := ns _ hd
    refine c8_at (by omega) (fun v1 _ => c8_at (by omega) (fun v2 _ => ?_))
    rw [if_neg n1, if_neg n2, if_neg n3, if_neg n4, if_neg n5, if_neg n6, hnum.2.2 rfl]
    exact ⟨vpT (by omega) (by omega), vpT (by omega) (by omega), c2_setBounds (by omega) hQ⟩
  · have nl := sgO_nl h3 h9
    rw [hsn]
    refine c8_isLetter (fun h => absurd h nl.1) (fun _ => ?_)
    rw [if_pos rfl]
    by_cases c3 : c = 3
    · subst c3
      refine c8_at (by omega) (fun v1 _ => c8_at (by omega) (fun v2 _ => ?_))
      rw [if_neg (show ¬ sgO 3 = 37 by decide), if_neg (show ¬ sgO 3 = 42 by decide), if_neg (show ¬ sgO 3 = 43 by decide), if_neg (show ¬ sgO 3 = 45 by decide), if_neg (show ¬ sgO 3 = 121 by decide), if_neg (show ¬ sgO 3 = 126 by decide), hnum.1 rfl]
      exact ⟨vpT (by omega) (by omega), vpT (by omega) (by omega), c2_setBounds (by omega) hQ⟩
    have h : c = 4 ∨ c = 8 ∨ c = 9 ∨ c = 5 ∨ c = 6 ∨ c = 7 := by omega
    have i1 : 1 ≤ innr c := by
      rcases h with h | h | h | h | h | h <;> subst h <;> decide
    obtain ⟨a1, a2, a3⟩ := s1 i1
    refine c8_atp (by omega) rfl (c8_atp (by omega) rfl ?_)
    have hsec := (h14 q hq).1 a1
    rcases h with h | h | h | h | h | h <;> subst h
    · rw [if_neg (show ¬ sgO 4 = 37 by decide), if_neg (show ¬ sgO 4 = 42 by decide), if_neg (show ¬ sgO 4 = 43 by decide), if_neg (show ¬ sgO 4 = 45 by decide), if_neg (show ¬ sgO 4 = 121 by decide), if_pos (show sgO 4 = 126 by decide), m22, m23]
      rw [show (rgc g E (bcM M0 b) q 4 (trM M0 (q + 1)) (trM M0 (E (q + 1)))).2 = (-(trM M0 (q + 1)).2.2, -(trM M0 (q + 1)).2.1) from ndO_1 k1 _] at hQ
      exact c2_setBounds (by omega) hQ
    · rw [if_pos (show sgO 8 = 37 by decide)]
      obtain ⟨b1, b2, b3, b4⟩ := s5 rfl
      obtain ⟨j, j1, j2, j3⟩ := isD_ix (hsg _ b2) b3
      have hj : j ≠ 0 := fun z => b4 (by rw [j3, z]; rfl)
      rw [show (rgc g E (bcM M0 b) q 8 (trM M0 (q + 1)) (trM M0 (E (q + 1)))).2 = lfO (trM M0 (q + 1)).2.1 (trM M0 (q + 1)).2.2 (g (E (q + 1)) - 48) from ndO_1 k1 _] at hQ
      refine ⟨vpT (by omega) (by omega), ?_⟩
      rw [hnum.2.1 rfl, m22, m23]
      exact c2_leftOver (j := j) (by omega) (by omega) j1 j2 hQ
    · rw [if_neg (show ¬ sgO 9 = 37 by decide), if_neg (show ¬ sgO 9 = 42 by decide), if_neg (show ¬ sgO 9 = 43 by decide), if_neg (show ¬ sgO 9 = 45 by decide), if_pos (show sgO 9 = 121 by decide), m22, m23]
      rw [show (rgc g E (bcM M0 b) q 9 (trM M0 (q + 1)) (trM M0 (E (q + 1)))).2 = bbO (trM M0 (q + 1)).2.1 (trM M0 (q + 1)).2.2 from ndO_1 k1 _] at hQ
      exact c2_byte (by omega) hQ
    · obtain ⟨b1, b2, b3, b4⟩ := s2 rfl
      rw [if_neg (show ¬ sgO 5 = 37 by decide), if_neg (show ¬ sgO 5 = 42 by decide), if_pos (show sgO 5 = 43 by decide)]
      rw [show (rgc g E (bcM M0 b) q 5 (trM M0 (q + 1)) (trM M0 (E (q + 1)))).2 = (cutL ((trM M0 (q + 1)).2.1.toInt64 + (trM M0 (E (q + 1))).2.1.toInt64), cutL ((trM M0 (q + 1)).2.2.toInt64 + (trM M0 (E (q + 1))).2.2.toInt64)) from ndO_1 k1 _] at hQ
      refine ⟨vpT (by omega) (by omega), c2_plus (by omega) (by omega) hsec ?_⟩
      rw [m22, m23]
      exact hQ
    · obtain ⟨b1, b2, b3, b4⟩ := s2 rfl
      rw [if_neg (show ¬ sgO 6 = 37 by decide), if_neg (show ¬ sgO 6 = 42 by decide), if_neg (show ¬ sgO 6 = 43 by decide), if_pos (show sgO 6 = 45 by decide)]
      rw [show (rgc g E (bcM M0 b) q 6 (trM M0 (q + 1)) (trM M0 (E (q + 1)))).2 = (cutL ((trM M0 (q + 1)).2.1.toInt64 - (trM M0 (E (q + 1))).2.2.toInt64), cutL ((trM M0 (q + 1)).2.2.toInt64 - (trM M0 (E (q + 1))).2.1.toInt64)) from ndO_1 k1 _] at hQ
      refine ⟨vpT (by omega) (by omega), c2_minus (by omega) (by omega) hsec ?_⟩
      rw [m22, m23]
      exact hQ
    · obtain ⟨b1, b2, b3, b4⟩ := s2 rfl
      rw [if_neg (show ¬ sgO 7 = 37 by decide), if_pos (show sgO 7 = 42 by decide)]
      rw [show (rgc g E (bcM M0 b) q 7 (trM M0 (q + 1)) (trM M0 (E (q + 1)))).2 = prO (trM M0 (q + 1)).2.1 (trM M0 (q + 1)).2.2 (trM M0 (E (q + 1))).2.1 (trM M0 (E (q + 1))).2.2 from ndO_1 k1 _] at hQ
      refine ⟨vpT (by omega) (by omega), c2_product (by omega) (by omega) hsec ?_⟩
      rw [m22, m23]
      exact hQ
theorem c2_chancesAt {M : Mem} {g : Nat → Int32} {n : Nat} {E : Nat → Nat} (hC : CQ M g n E) {b q c : Nat} (hq : q < n) (hc : kd g q = c) (h10 : 10 ≤ c) {Q : Int32 → Mem → Prop} (hQ : Q (rgc g E (bcM M b) q c (trM M (q + 1)) (trM M (E (q + 1)))).1 M) : w_X2_chancesAt (nI q) 0 b Q M := by
  have hCC := hC
  obtain ⟨hn60, -, h11, h12, hn, hs, hsg, h13, h14⟩ := hC
  have hle : c ≤ 15 := by rw [← hc]; exact kd_le g q
  have hz : c ≠ 0 := by omega
  obtain ⟨s1, s2, -, -, -, s6⟩ := sh hn hs hq hc hz
  have hsn : g q = sgO c := by
    rcases kd_s hc hz with h | h | h
    · omega
    · omega
    · exact h.2
  unfold w_X2_chancesAt
  rw [nI_clamp (n := q) (by omega), h12, nI_1]
  refine ⟨vpT (by omega) (by omega), fun x3 e3 => ?_⟩
  rw [hsn] at e3
  subst e3
  have h : c = 10 ∨ c = 11 ∨ c = 12 ∨ c = 13 ∨ c = 14 ∨ c = 15 := by omega
  rcases h with h | h | h | h | h | h <;> subst h
  · obtain ⟨a1, a2, a3⟩ := s1 (by decide)
    obtain ⟨b1, b2, b3, b4⟩ := s2 (by decide)
    rw [if_neg (show ¬ sgO 10 = 109 by decide)]
    intro x4 e4
    subst e4
    refine ⟨vpT (by omega) (by omega), fun x5 e5 => ?_⟩
    rw [if_pos (show sgO 10 = 60 by decide)]
    exact c2_compared (by omega) (by omega) (e5.trans ((h14 q hq).1 a1)) (fun _ => hQ) (fun h => absurd (by decide) h)
  · obtain ⟨a1, a2, a3⟩ := s1 (by decide)
    obtain ⟨b1, b2, b3, b4⟩ := s2 (by decide)
    rw [if_neg (show ¬ sgO 11 = 109 by decide)]
    intro x4 e4
    subst e4
    refine ⟨vpT (by omega) (by omega), fun x5 e5 => ?_⟩
    rw [if_neg (show ¬ sgO 11 = 60 by decide), if_pos (show sgO 11 = 61 by decide)]
    exact c2_compared (by omega) (by omega) (e5.trans ((h14 q hq).1 a1)) (fun h => absurd h (by decide)) (fun _ => hQ)
  · obtain ⟨a1, a2, a3⟩ := s1 (by decide)
    obtain ⟨b1, b2, b3, b4⟩ := s2 (by decide)
    rw [if_neg (show ¬ sgO 12 = 109 by decide)]
    intro x4 e4
    subst e4
    refine ⟨vpT (by omega) (by omega), fun x5 e5 => ?_⟩
    rw [if_neg (show ¬ sgO 12 = 60 by decide), if_neg (show ¬ sgO 12 = 61 by decide), if_neg (show ¬ sgO 12 = 33 by decide)]
    refine c8_atp (by omega) rfl (c8_atp (by omega) (e5.trans ((h14 q hq).1 a1)) (c2_joined ?_))
    rw [show fJ (sgO 12) = boO from if_pos (by decide)]
    exact hQ
  · obtain ⟨a1, a2, a3⟩ := s1 (by decide)
    obtain ⟨b1, b2, b3, b4⟩ := s2 (by decide)
    rw [if_neg (show ¬ sgO 13 = 109 by decide)]
    intro x4 e4
    subst e4
    refine ⟨vpT (by omega) (by omega), fun x5 e5 => ?_⟩
    rw [if_neg (show ¬ sgO 13 = 60 by decide), if_neg (show ¬ sgO 13 = 61 by decide), if_neg (show ¬ sgO 13 = 33 by decide)]
    refine c8_atp (by omega) rfl (c8_atp (by omega) (e5.trans ((h14 q hq).1 a1)) (c2_joined ?_))
    rw [show fJ (sgO 13) = eiO from if_neg (by decide)]
    exact hQ
  · obtain ⟨a1, a2, a3⟩ := s1 (by decide)
    rw [if_neg (show ¬ sgO 14 = 109 by decide)]
    intro x4 e4
    subst e4
    refine ⟨vpT (by omega) (by omega), fun x5 e5 => ?_⟩
    rw [if_neg (show ¬ sgO 14 = 60 by decide), if_neg (show ¬ sgO 14 = 61 by decide), if_pos (show sgO 14 = 33 by decide)]
    exact c8_atp (by omega) rfl (c2_not hQ)
  · obtain ⟨a1, a2⟩ := s6 rfl
    rw [if_pos (show sgO 15 = 109 by decide)]
    refine c8_atp (by omega) rfl ?_
    rw [h12]
    obtain ⟨j, j1, j2, j3, j4⟩ := isL_ix (hsg (q + 1) a1) a2
    have hQ : Q (mC (cxT (bcM M b) (g (q + 1))).1 (bcM M b).2) M := hQ
    rw [cxT_ix j2 j1, show (bcM M b).1 j = (M.1 (7, 0, b, j) 2, M.1 (7, 0, b, j) 0, M.1 (7, 0, b, j) 1) from if_pos j1] at hQ
    rw [j2]
    unfold w_X2_missingChances
    refine c8_isColumn j1 ?_
    rw [if_neg (by decide), nI_clamp (by omega)]
    refine ⟨vpT (by omega) (by omega), fun x4 e4 => ?_⟩
    subst e4
    exact mC_if (P := fun v => Q v M) hQ
theorem rgc_1 {g : Nat → Int32} {E : Nat → Nat} {S : bcx} {k c : Nat} {x x2 y y2 : tri} (h1 : 12 ≤ c) (h15 : c ≤ 15) (hx : c ≤ 14 → x.1 = x2.1) (hy : c ≤ 13 → y.1 = y2.1) : rgc g E S k c x y = rgc g E S k c x2 y2 := by
  have h : c = 12 ∨ c = 13 ∨ c = 14 ∨ c = 15 := by omega
  rcases h with h | h | h | h <;> subst h
  · show ((jnO boO x.1 y.1, 0, 0) : tri) = (jnO boO x2.1 y2.1, 0, 0)
    rw [hx (by omega), hy (by omega)]
  · show ((jnO eiO x.1 y.1, 0, 0) : tri) = (jnO eiO x2.1 y2.1, 0, 0)
    rw [hx (by omega), hy (by omega)]
  · show ((ntO x.1, 0, 0) : tri) = (ntO x2.1, 0, 0)
    rw [hx (by omega)]
  · show ((mC (cxT S (g (k + 1))).1 S.2, 0, 0) : tri) = (mC (cxT S (g (k + 1))).1 S.2, 0, 0)
    rfl
/-- what the class has found of the places from p on -/
def RgM (M : Mem) (g : Nat → Int32) (n : Nat) (E : Nat → Nat) (S : bcx) (p : Nat) : Prop := ∀ k, p ≤ k → k < n → kd g k ≠ 0 → M.1 (21, 0, 0, 0) k = (rg g n E S k).1 ∧ (rol g k = 2 → trM M k = rg g n E S k)
theorem RgM.val {M : Mem} {g : Nat → Int32} {n : Nat} {E : Nat → Nat} {S : bcx} {q : Nat} (hn : stk g n = some []) (hs : SQ g n E) (hq : q < n) (hz : kd g q ≠ 0) (h : RgM M g n E S (q + 1)) : rgc g E S q (kd g q) (trM M (q + 1)) (trM M (E (q + 1))) = rg g n E S q := by
  rw [rg_eq hn hs hq hz]
  obtain ⟨s1, s2, -⟩ := sh hn hs hq rfl hz
  have hle := kd_le g q
  by_cases h12 : 12 ≤ kd g q
  · refine rgc_1 h12 hle (fun z => ?_) (fun z => ?_)
    · have i1 : 1 ≤ innr (kd g q) := by
        have : kd g q = 12 ∨ kd g q = 13 ∨ kd g q = 14 := by omega
        rcases this with h | h | h <;> rw [h] <;> decide
      obtain ⟨a, b, -⟩ := s1 i1
      exact (h (q + 1) (by omega) a b).1
    · have i1 : innr (kd g q) = 2 := by
        have : kd g q = 12 ∨ kd g q = 13 := by omega
        rcases this with h | h <;> rw [h] <;> decide
      obtain ⟨a, b, d, -⟩ := s2 i1
      exact (h (E (q + 1)) (by omega) b d).1
  · have pt : ptw (kd g q) = 2 := by
      unfold ptw
      rw [if_neg (by omega)]
    refine rgc_c (by omega) hle (fun z => ?_) (fun z => ?_)
    · obtain ⟨a, b, d⟩ := s1 z
      exact (h (q + 1) (by omega) a b).2 (by rw [d, pt])
    · obtain ⟨a, b, d, e⟩ := s2 z
      exact (h (E (q + 1)) (by omega) b d).2 (by rw [e, pt])
abbrev rjK : List Nat := [21, 22, 23]
theorem bcM_kp {M M1 : Mem} {b : Nat} (h : ∀ i : ix, i.1 = 3 ∨ i.1 = 7 → M1.1 i = M.1 i) : bcM M1 b = bcM M b := by
  unfold bcM
  rw [h (3, 0, b, 0) (by simp)]
  refine Prod.ext (funext fun j => ?_) rfl
  dsimp only
  rw [h (7, 0, b, j) (by simp)]
theorem c2_judge_10 {g : Nat → Int32} {n : Nat} {E : Nat → Nat} {M0 : Mem} (hC : CQ M0 g n E) {b : Nat} {Q : Mem → Prop} (hQ : ∀ M1, onl M0 M1 rjK → RgM M1 g n E (bcM M0 b) 0 → Q M1) : ∀ p x M, x = dn p → p ≤ n → onl M0 M rjK → RgM M g n E (bcM M0 b) p → w_X2_judge_10 0 b Q (p + 1) x M := by
  intro p
  have hn := hC.2.2.2.2.1
  have hs := hC.2.2.2.2.2.1
  have hn60 := hC.1
  induction p with
  | zero =>
    intro x M hx hp hf hE
    rw [w_X2_judge_10, hx, if_pos dn_0]
    exact hQ M hf hE
  | succ q ih =>
    intro x M hx hp hf hE
    rw [dn_s] at hx
    have hC1 : CQ M g n E := hC.kp (fun i h1 h2 => hf.1 i (by simp; omega))
    have h13 := hC1.2.2.2.2.2.2.2.1 q (by omega)
    rw [w_X2_judge_10, hx, if_neg (nI_nn (by omega)), nI_clamp (n := q) (by omega), h13]
    obtain ⟨y, hy⟩ : ∃ y, y = nI q + (-1) := ⟨_, rfl⟩
    rw [← hy]
    refine ⟨vpT (by omega) (by omega), ?_⟩
    have hb : bcM M b = bcM M0 b := bcM_kp (fun i hi => hf.1 i (by simp; omega))
    have hrol := hC1.2.2.2.2.2.1 q (by omega)
    obtain ⟨r, T, hst, -⟩ := hrol
    have hr5 := stk_mem q _ hst r (by simp)
    have hrl := rol_of hst
    rw [hrl]
    by_cases r1 : r = 1
    · subst r1
      rw [if_pos (show nI 1 = 1 from rfl)]
      have hz := kd_nz hn (by omega) hst (by omega)
      have val := RgM.val hn hs (by omega) hz hE
      rcases kd_hi hz with h | h
      · refine c2_chancesAt hC1 (by omega) rfl h.2 ⟨vpT (by omega) (by omega), ?_⟩
        rw [hb, val]
        refine ih y _ hy (by omega) (hf.tr (onl.mr _ (by simp))) (fun k hk hkn hzk => ?_)
        by_cases e : k = q
        · subst e
          exact ⟨by rw [mu_row, upd_at], fun h2 => absurd h2 (by omega)⟩
        · have := hE k (by omega) hkn hzk
          refine ⟨by rw [mu_row, upd_ne _ _ e]; exact this.1, fun h2 => ?_⟩
          rw [← this.2 h2]
          unfold trM
          rw [mu_row, upd_ne _ _ e, mu_ne _ _ _ (by simp), mu_ne _ _ _ (by simp)]
      · omega
    rw [if_neg (show ¬ nI r = 1 from nIne (by omega) (by decide) r1)]
    refine ⟨vpT (by omega) (by omega), ?_⟩
    by_cases r22 : r = 2
    · subst r22
      rw [if_pos (show nI 2 = 2 from rfl)]
      have hz := kd_nz hn (by omega) hst (by omega)
      have val := RgM.val hn hs (by omega) hz hE
      rcases kd_hi hz with h | h
      · omega
      · refine c2_kindAt hC1 (by omega) rfl (by omega) h.2 ⟨vpT (by omega) (by omega), ?_⟩
        refine c2_findBounds hC1 (by omega) rfl (by omega) h.2 rfl rfl ?_
        rw [hb, val]
        refine ih y _ hy (by omega) (((hf.tr (onl.mr _ (by simp))).tr (onl.mr _ (by simp))).tr (onl.mr _ (by simp))) (fun k hk hkn hzk => ?_)
        unfold sB
        by_cases e : k = q
        · subst e
          have t1 : (mu (mu (mu M (21, 0, 0, 0) k (rg g n E (bcM M0 b) k).1) (22, 0, 0, 0) k (rg g n E (bcM M0 b) k).2.1) (23, 0, 0, 0) k (rg g n E (bcM M0 b) k).2.2).1 (21, 0, 0, 0) k = (rg g n E (bcM M0 b) k).1 := by rw [mu_ne _ _ _ (by simp), mu_ne _ _ _ (by simp), mu_row, upd_at]
          refine ⟨t1, fun _ => ?_⟩
          unfold trM
          rw [t1]
          refine Prod.ext rfl (Prod.ext ?_ ?_)
          · dsimp only
            rw [mu_ne _ _ _ (by simp), mu_row, upd_at]
          · dsimp only
            rw [mu_row, upd_at]
        · have := hE k (by omega) hkn hzk
          refine ⟨by rw [mu_ne _ _ _ (by simp), mu_ne _ _ _ (by simp), mu_row, upd_ne _ _ e]; exact this.1, fun h2 => ?_⟩
          rw [← this.2 h2]
          unfold trM
          rw [mu_ne _ _ _ (by simp), mu_ne _ _ _ (by simp), mu_row, upd_ne _ _ e, mu_ne _ _ _ (by simp), mu_row, upd_ne _ _ e, mu_row, upd_ne _ _ e, mu_ne _ _ _ (by simp), mu_ne _ _ _ (by simp), mu_ne _ _ _ (by simp)]
    rw [if_neg (show ¬ nI r = 2 from nIne (by omega) (by decide) r22)]
    refine ih y M hy (by omega) hf (fun k hk hkn hz => ?_)
    by_cases e : k = q
    · subst e
      rw [kd_o hst (by omega)] at hz
      exact absurd rfl hz
    · exact hE k (by omega) hkn hz
theorem c2_judge {g : Nat → Int32} {n : Nat} {E : Nat → Nat} {M : Mem} (hC : CQ M g n E) {b : Nat} {Q : Mem → Prop} (hQ : ∀ M1, onl M M1 rjK → RgM M1 g n E (bcM M b) 0 → Q M1) : w_X2_judge 0 b Q M := by
  intro x e
  rw [hC.2.2.1, dn_of] at e
  have h := c2_judge_10 hC hQ n x M e (Nat.le_refl n) onl.rf (fun k h1 h2 => absurd h2 (by omega))
  exact ⟨n + 1, h⟩
