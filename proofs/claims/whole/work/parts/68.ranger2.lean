/-! the reference: layRange, layBlock -/
def W3 (M : Mem) (q : Nat) (K : Int32) (p : Int32 × Int32) : Mem := mu (mu (mu M (42, 0, 0, 0) q K) (43, 0, 0, 0) q p.1) (44, 0, 0, 0) q p.2
theorem andK_add {a b : Int32} (ha : t03 a) (hb : t03 b) : ((a &&& b) &&& 1) + ((a ||| b) &&& 2) = andK a b := by
  rcases ha with h | h | h | h <;> subst h <;> rcases hb with h | h | h | h <;> subst h <;> decide
theorem andK_self {a : Int32} (ha : t03 a) : andK a a = a := by
  rcases ha with h | h | h | h <;> subst h <;> decide
theorem andK_1 {a b : Int32} (ha : t03 a) (hb : t03 b) (h : ¬ andK a b &&& 1 = 0) : ¬ a &&& 1 = 0 ∧ ¬ b &&& 1 = 0 := by
  revert h
  rcases ha with h | h | h | h <;> subst h <;> rcases hb with h | h | h | h <;> subst h <;> decide
theorem c9_636 {a1 : Int32} {q : Nat} (hq : q < 60) {l h d : Int32} {Q : Mem → Prop} {M : Mem} (hn : ¬ (l / d = h / d ∧ ¬ (l < 0 ∧ 0 < h))) (hQ : Q (mu (mu M (43, 0, 0, 0) q (lfO l h d).1) (44, 0, 0, 0) q (lfO l h d).2)) : w_X9_layRange_636 a1 (nI q) Q l h d M := by
  unfold lfO at hQ
  rw [if_neg hn] at hQ
  unfold w_X9_layRange_636
  rw [nI_clamp (n := q) (by omega)]
  have v := vpT (show q < 60 from hq) (by omega)
  by_cases a : l < 0
  · rw [if_pos a] at hQ ⊢
    by_cases b : l ≤ 1 - d
    · rw [if_pos b] at hQ ⊢
      refine ⟨v, ?_⟩
      by_cases e : 0 < h
      · rw [if_pos e] at hQ ⊢
        by_cases f : d - 1 ≤ h
        · rw [if_pos f] at hQ ⊢; exact ⟨v, hQ⟩
        · rw [if_neg f] at hQ ⊢; exact ⟨v, hQ⟩
      · rw [if_neg e] at hQ ⊢; exact ⟨v, hQ⟩
    · rw [if_neg b] at hQ ⊢
      refine ⟨v, ?_⟩
      by_cases e : 0 < h
      · rw [if_pos e] at hQ ⊢
        by_cases f : d - 1 ≤ h
        · rw [if_pos f] at hQ ⊢; exact ⟨v, hQ⟩
        · rw [if_neg f] at hQ ⊢; exact ⟨v, hQ⟩
      · rw [if_neg e] at hQ ⊢; exact ⟨v, hQ⟩
  · rw [if_neg a] at hQ ⊢
    refine ⟨v, ?_⟩
    by_cases e : 0 < h
    · rw [if_pos e] at hQ ⊢
      by_cases f : d - 1 ≤ h
      · rw [if_pos f] at hQ ⊢; exact ⟨v, hQ⟩
      · rw [if_neg f] at hQ ⊢; exact ⟨v, hQ⟩
    · rw [if_neg e] at hQ ⊢; exact ⟨v, hQ⟩
theorem c9_477 {a1 : Int32} {q : Nat} (hq : q < 60) {a c d e : Int32} {Q : Mem → Prop} {M : Mem} (hQ : Q (mu (mu M (43, 0, 0, 0) q (mnO (mnO a c) (mnO d e))) (44, 0, 0, 0) q (mxO (mxO a c) (mxO d e)))) : (if c ≤ a then w_X9_layRange_477 a1 (nI q) Q a c d e c M else w_X9_layRange_477 a1 (nI q) Q a c d e a M) := by
  have v := vpT (show q < 60 from hq) (by omega)
  have s525 : ∀ m1 m2 x1 x2 : Int32, m1 = mnO a c → m2 = mnO d e → x1 = mxO a c → x2 = mxO d e → w_X9_layRange_525 a1 (nI q) Q m1 m2 x1 x2 M := by
    intro m1 m2 x1 x2 h1 h2 h3 h4
    rw [← h1, ← h2, ← h3, ← h4] at hQ
    unfold w_X9_layRange_525
    rw [nI_clamp (n := q) (by omega)]
    by_cases z : m2 ≤ m1
    · rw [if_pos z]
      rw [show mnO m1 m2 = m2 from if_pos z] at hQ
      refine ⟨v, ?_⟩
      by_cases y : x1 ≤ x2
      · rw [if_pos y]; rw [show mxO x1 x2 = x2 from if_pos y] at hQ; exact ⟨v, hQ⟩
      · rw [if_neg y]; rw [show mxO x1 x2 = x1 from if_neg y] at hQ; exact ⟨v, hQ⟩
    · rw [if_neg z]
      rw [show mnO m1 m2 = m1 from if_neg z] at hQ
      refine ⟨v, ?_⟩
      by_cases y : x1 ≤ x2
      · rw [if_pos y]; rw [show mxO x1 x2 = x2 from if_pos y] at hQ; exact ⟨v, hQ⟩
      · rw [if_neg y]; rw [show mxO x1 x2 = x1 from if_neg y] at hQ; exact ⟨v, hQ⟩
  have s509 : ∀ m1 m2 x1 : Int32, m1 = mnO a c → m2 = mnO d e → x1 = mxO a c → w_X9_layRange_509 a1 (nI q) Q d e m1 m2 x1 M := by
    intro m1 m2 x1 h1 h2 h3
    unfold w_X9_layRange_509
    by_cases z : d ≤ e
    · rw [if_pos z]; exact s525 _ _ _ _ h1 h2 h3 (by unfold mxO; rw [if_pos z])
    · rw [if_neg z]; exact s525 _ _ _ _ h1 h2 h3 (by unfold mxO; rw [if_neg z])
  have s493 : ∀ m1 m2 : Int32, m1 = mnO a c → m2 = mnO d e → w_X9_layRange_493 a1 (nI q) Q a c d e m1 m2 M := by
    intro m1 m2 h1 h2
    unfold w_X9_layRange_493
    by_cases z : a ≤ c
    · rw [if_pos z]; exact s509 _ _ _ h1 h2 (by unfold mxO; rw [if_pos z])
    · rw [if_neg z]; exact s509 _ _ _ h1 h2 (by unfold mxO; rw [if_neg z])
  have s477 : ∀ m1 : Int32, m1 = mnO a c → w_X9_layRange_477 a1 (nI q) Q a c d e m1 M := by
    intro m1 h1
    unfold w_X9_layRange_477
    by_cases z : e ≤ d
    · rw [if_pos z]; exact s493 _ _ h1 (by unfold mnO; rw [if_pos z])
    · rw [if_neg z]; exact s493 _ _ h1 (by unfold mnO; rw [if_neg z])
  by_cases z : c ≤ a
  · rw [if_pos z]; exact s477 _ (by unfold mnO; rw [if_pos z])
  · rw [if_neg z]; exact s477 _ (by unfold mnO; rw [if_neg z])
def rg2 (g : Nat → Int32) (E : Nat → Nat) (q : Nat) : Nat → tri → tri → Int32 × Int32
  | 4, X, _ => (-X.2.2, -X.2.1)
  | 5, X, Y => (cutL (X.2.1.toInt64 + Y.2.1.toInt64), cutL (X.2.2.toInt64 + Y.2.2.toInt64))
  | 6, X, Y => (cutL (X.2.1.toInt64 - Y.2.2.toInt64), cutL (X.2.2.toInt64 - Y.2.1.toInt64))
  | 7, X, Y => prO X.2.1 X.2.2 Y.2.1 Y.2.2
  | 8, X, _ => lfO X.2.1 X.2.2 (g (E (q + 1)) - 48)
  | 9, X, _ => bbO X.2.1 X.2.2
  | _, _, _ => (0, 0)
theorem c9_197 {M : Mem} {g : Nat → Int32} {n : Nat} {E : Nat → Nat} (hC : RC M g n E) {b q c i j : Nat} (hq : q < n) (hc : kd g q = c) (h4 : 4 ≤ c) (h9 : c ≤ 9) (hi : i < 60) (hj : j < 60) (hiq : i ≠ q) (hjq : j ≠ q) {X Y : tri} (hX : tR M i X) (hY : tR M j Y) (x3 : t03 X.1) (y3 : t03 Y.1) {Q : Mem → Prop} (h0 : andK X.1 Y.1 &&& 1 = 0 → Q (mu M (42, 0, 0, 0) q (andK X.1 Y.1))) (hW : ¬ andK X.1 Y.1 &&& 1 = 0 → Q (W3 M q (andK X.1 Y.1) (rg2 g E q c X Y))) : w_X9_layRange_197 (nI b) (nI q) Q (nI i) (nI j) M := by
  have h35 := hC.k35 hq hc (by omega)
  have hCC := hC
  obtain ⟨hn60, -, h29, h34, hn, hs, hsg, hrr⟩ := hC
  have hz : c ≠ 0 := by omega
  obtain ⟨s1, s2, s3, s4, s5, s6⟩ := sh hn hs hq hc hz
  obtain ⟨r1, r2, r3⟩ := hrr.2 q hq (by rw [hc]; exact hz)
  have v := vpT (show q < 60 by omega) (by omega)
  have vi := vpT hi (by omega)
  have vj := vpT hj (by omega)
  unfold w_X9_layRange_197
  rw [nI_clamp (n := q) (by omega), nI_clamp (n := i) (by omega), nI_clamp (n := j) (by omega), hX.1, hY.1, andK_add x3 y3]
  refine ⟨vi, vj, vi, vj, v, fun M2 e2 => ⟨v, ?_⟩⟩
  have m42 : M2.1 (42, 0, 0, 0) q = andK X.1 Y.1 := by rw [e2, mu_row, upd_at]
  rw [m42]
  by_cases z : andK X.1 Y.1 &&& 1 = 0
  · rw [if_pos z, e2]; exact h0 z
  rw [if_neg z]
  obtain ⟨z1, z2⟩ := andK_1 x3 y3 z
  obtain ⟨p1, p2⟩ := hX.2 z1
  obtain ⟨p3, p4⟩ := hY.2 z2
  have hW := hW z
  have m43 : M2.1 (43, 0, 0, 0) = M.1 (43, 0, 0, 0) := by rw [e2, mu_ne _ _ _ (by simp)]
  have m44 : M2.1 (44, 0, 0, 0) = M.1 (44, 0, 0, 0) := by rw [e2, mu_ne _ _ _ (by simp)]
  have m35 : M2.1 (35, 0, 0, 0) q = nI c := by rw [e2, mu_ne _ _ _ (by simp)]; exact h35
  rw [m43, m44, m35, p1, p2, p3, p4]
  refine ⟨vi, fun x6 e6 => ⟨vi, fun x7 e7 => ⟨vj, fun x8 e8 => ⟨vj, fun x10 e10 => ⟨v, ?_⟩⟩⟩⟩⟩
  subst e6 e7 e8 e10
  unfold W3 at hW
  rw [← e2] at hW
  have h : c = 4 ∨ c = 5 ∨ c = 6 ∨ c = 7 ∨ c = 8 ∨ c = 9 := by omega
  rcases h with h | h | h | h | h | h <;> subst h
  · rw [if_pos (show nI 4 = 4 from rfl)]
    rw [show rg2 g E q 4 X Y = (-X.2.2, -X.2.1) from rfl] at hW
    exact ⟨v, v, hW⟩
  · rw [if_neg (show ¬ nI 5 = 4 by decide), if_pos (show nI 5 = 5 from rfl)]
    rw [show rg2 g E q 5 X Y = (cutL (X.2.1.toInt64 + Y.2.1.toInt64), cutL (X.2.2.toInt64 + Y.2.2.toInt64)) from rfl] at hW
    exact c9_cut ⟨v, c9_cut ⟨v, hW⟩⟩
  · rw [if_neg (show ¬ nI 6 = 4 by decide), if_neg (show ¬ nI 6 = 5 by decide), if_pos (show nI 6 = 6 from rfl)]
    rw [show rg2 g E q 6 X Y = (cutL (X.2.1.toInt64 - Y.2.2.toInt64), cutL (X.2.2.toInt64 - Y.2.1.toInt64)) from rfl] at hW
    exact c9_cut ⟨v, c9_cut ⟨v, hW⟩⟩
  · rw [if_neg (show ¬ nI 7 = 4 by decide), if_neg (show ¬ nI 7 = 5 by decide), if_neg (show ¬ nI 7 = 6 by decide), if_pos (show nI 7 = 7 from rfl)]
    rw [show rg2 g E q 7 X Y = prO X.2.1 X.2.2 Y.2.1 Y.2.2 from rfl] at hW
    unfold prO at hW
    dsimp only at hW
    exact c9_cut (c9_cut (c9_cut (c9_cut (c9_477 (by omega) hW))))
  · rw [if_neg (show ¬ nI 8 = 4 by decide), if_neg (show ¬ nI 8 = 5 by decide), if_neg (show ¬ nI 8 = 6 by decide), if_neg (show ¬ nI 8 = 7 by decide), if_pos (show nI 8 = 8 from rfl)]
    obtain ⟨b1, b2, b3, b4⟩ := s5 rfl
    obtain ⟨jd, j1, j2, j3⟩ := isD_ix (hsg _ b2) b3
    have hj0 : jd ≠ 0 := fun z => b4 (by rw [j3, z]; rfl)
    have m38 : M2.1 (38, 0, 0, 0) q = nI (E (q + 1) + 1) := by rw [e2, mu_ne _ _ _ (by simp), r3, s3, if_neg (by decide), if_pos rfl]
    have m34 : M2.1 (34, 0, 0, 0) = g := by rw [e2, mu_ne _ _ _ (by simp)]; exact h34
    rw [m38, m34, show nI (E (q + 1) + 1) - 1 = nI (E (q + 1)) from nI_pred _, nI_clamp (n := E (q + 1)) (by omega)]
    refine ⟨v, vpT (by omega) (by omega), fun d ed => ?_⟩
    have hd0 : ¬ d = 0 := by rw [ed, j2]; exact nI_ne0 (by omega) (by omega)
    have hW : Q (mu (mu M2 (43, 0, 0, 0) q (lfO X.2.1 X.2.2 d).1) (44, 0, 0, 0) q (lfO X.2.1 X.2.2 d).2) := by rw [ed]; exact hW
    refine ⟨hd0, hd0, ?_⟩
    by_cases e : X.2.1 / d = X.2.2 / d
    · rw [if_pos e]
      have yes : ¬ (X.2.1 < 0 ∧ 0 < X.2.2) → (¬ d = 0 ∧ (vp_in (nI q) 60 ∧ (¬ d = 0 ∧ (vp_in (nI q) 60 ∧ (∀ M632 : Mem, M632 = (mu (mu M2 (43, 0, 0, 0) q (X.2.1 - X.2.1 / d * d)) (44, 0, 0, 0) q (X.2.2 - X.2.2 / d * d)) → (Q M632)))))) := by
        intro hn
        unfold lfO at hW
        rw [if_pos ⟨e, hn⟩] at hW
        exact ⟨hd0, v, hd0, v, fun M6 e6 => by rw [e6]; exact hW⟩
      by_cases l0 : 0 ≤ X.2.1
      · rw [if_pos l0]; exact yes (fun q => (i32_nlt.mpr l0) q.1)
      rw [if_neg l0]
      by_cases h0 : 0 < X.2.2
      · rw [if_pos h0]; exact c9_636 (by omega) (fun q => q.2 ⟨i32_nle.mp l0, h0⟩) hW
      · rw [if_neg h0]; exact yes (fun q => h0 q.2)
    · rw [if_neg e]
      exact c9_636 (by omega) (fun q => e q.1) hW
  · rw [if_neg (show ¬ nI 9 = 4 by decide), if_neg (show ¬ nI 9 = 5 by decide), if_neg (show ¬ nI 9 = 6 by decide), if_neg (show ¬ nI 9 = 7 by decide), if_neg (show ¬ nI 9 = 8 by decide)]
    have hW : Q (mu (mu M2 (43, 0, 0, 0) q (bbO X.2.1 X.2.2).1) (44, 0, 0, 0) q (bbO X.2.1 X.2.2).2) := hW
    unfold bbO at hW
    by_cases a : (256 : Int32) ≤ X.2.2 - X.2.1
    · rw [if_pos a] at hW ⊢
      rw [if_pos rfl]
      refine ⟨v, ?_⟩
      rw [if_pos rfl]
      exact ⟨v, hW⟩
    rw [if_neg a] at hW ⊢
    refine c9_byteOf (c9_byteOf ?_)
    by_cases e : byO X.2.2 < byO X.2.1
    · rw [if_pos e] at hW ⊢
      rw [if_pos rfl]
      refine ⟨v, ?_⟩
      rw [if_pos rfl]
      exact ⟨v, hW⟩
    rw [if_neg e] at hW ⊢
    rw [if_neg (by decide)]
    refine c9_byteOf ⟨v, ?_⟩
    rw [if_neg (by decide)]
    exact c9_byteOf ⟨v, hW⟩
theorem kC_2 {ms rows : Int32} {P : Int32 → Prop} (h : P (kC ms rows)) : (if rows ≤ ms then (if ms ≤ 0 then P ((0 : Int32) + (0 : Int32)) else P ((0 : Int32) + (2 : Int32))) else (if ms ≤ 0 then P ((1 : Int32) + (0 : Int32)) else P ((1 : Int32) + (2 : Int32)))) := by
  unfold kC at h
  by_cases a : ms ≤ 0
  · by_cases b : rows ≤ ms
    · rw [if_pos a, if_pos b] at h; rw [if_pos b, if_pos a]; exact h
    · rw [if_pos a, if_neg b] at h; rw [if_neg b, if_pos a]; exact h
  · by_cases b : rows ≤ ms
    · rw [if_neg a, if_pos b] at h; rw [if_pos b, if_neg a]; exact h
    · rw [if_neg a, if_neg b] at h; rw [if_neg b, if_neg a]; exact h
theorem c9_layRange {M : Mem} {g : Nat → Int32} {n : Nat} {E : Nat → Nat} (hC : RC M g n E) {b q c : Nat} (hb : b < 6) (hq : q < n) (hc : kd g q = c) (h1 : 1 ≤ c) (h9 : c ≤ 9) {X Y : tri} (hX : 1 ≤ innr c → tR M (q + 1) X) (hY : innr c = 2 → tR M (E (q + 1)) Y) (x3 : 1 ≤ innr c → t03 X.1) (y3 : innr c = 2 → t03 Y.1) {Q : Mem → Prop} (h0 : (rgc g E (bcR M b) q c X Y).1 &&& 1 = 0 → Q (mu M (42, 0, 0, 0) q (rgc g E (bcR M b) q c X Y).1)) (hW : ∀ p, (¬ (rgc g E (bcR M b) q c X Y).1 &&& 1 = 0 → p = (rgc g E (bcR M b) q c X Y).2) → Q (W3 M q (rgc g E (bcR M b) q c X Y).1 p)) : w_X9_layRange (nI b) (nI q) Q M := by
  have h35 := hC.k35 hq hc (by omega)
  have hCC := hC
  obtain ⟨hn60, -, h29, h34, hn, hs, hsg, hrr⟩ := hC
  have hz : c ≠ 0 := by omega
  obtain ⟨s1, s2, s3, s4, s5, s6⟩ := sh hn hs hq hc hz
  obtain ⟨r1, r2, r3⟩ := hrr.2 q hq (by rw [hc]; exact hz)
  rw [hc] at r2
  have v := vpT (show q < 60 by omega) (by omega)
  unfold w_X9_layRange
  rw [nI_clamp (n := q) (by omega), h35]
  refine ⟨v, c9_inner h1 (by omega) ?_⟩
  by_cases c1 : c = 1
  · subst c1
    rw [show innr 1 = 0 from rfl, if_pos (show nI 0 = 0 from rfl)]
    refine ⟨v, ?_⟩
    rw [h35, if_pos (show nI 1 = 1 from rfl)]
    refine ⟨v, fun x4 e4 => ?_⟩
    have hl : isL (g q) := by
      rcases kd_s hc hz with h | h | h
      · exact h.2
      · omega
      · omega
    obtain ⟨j, j1, j2, j3, j4⟩ := isL_ix (hsg q hq) hl
    rw [h34, col_ix j3] at e4
    subst e4
    have eb : (cxT (bcR M b) (g q)) = (M.1 (32, 0, 0, 0) (12 * (4 * b + j) + 2), M.1 (32, 0, 0, 0) (12 * (4 * b + j)), M.1 (32, 0, 0, 0) (12 * (4 * b + j) + 1)) := by
      rw [cxT_ix j2 j1]
      exact if_pos j1
    have eK : rgc g E (bcR M b) q 1 X Y = (kC (M.1 (32, 0, 0, 0) (12 * (4 * b + j) + 2)) (M.1 (31, 0, 0, 0) b), ndO (kC (M.1 (32, 0, 0, 0) (12 * (4 * b + j) + 2)) (M.1 (31, 0, 0, 0) b)) (M.1 (32, 0, 0, 0) (12 * (4 * b + j)), M.1 (32, 0, 0, 0) (12 * (4 * b + j) + 1))) := by
      show (kC (cxT (bcR M b) (g q)).1 (bcR M b).2, ndO (kC (cxT (bcR M b) (g q)).1 (bcR M b).2) (cxT (bcR M b) (g q)).2) = _
      rw [eb]
      rfl
    rw [eK] at hW
    dsimp only at hW
    have a2 : nI (12 * (4 * b + j)) + 2 = nI (12 * (4 * b + j) + 2) := nI_al _ _
    have a1 : nI (12 * (4 * b + j)) + 1 = nI (12 * (4 * b + j) + 1) := nI_al _ _
    rw [a2, nI_clamp (n := b) (by omega), nI_clamp (n := 12 * (4 * b + j) + 2) (by omega)]
    refine ⟨vpT (by omega) (by omega), vpT (by omega) (by omega), ?_⟩
    have hP : Q (W3 M q (kC (M.1 (32, 0, 0, 0) (12 * (4 * b + j) + 2)) (M.1 (31, 0, 0, 0) b)) (M.1 (32, 0, 0, 0) (12 * (4 * b + j)), M.1 (32, 0, 0, 0) (12 * (4 * b + j) + 1))) := hW _ (fun z => (ndO_1 z _).symm)
    have s70 : ∀ t0 K : Int32, (M.1 (32, 0, 0, 0) (12 * (4 * b + j) + 2) ≤ 0 → Q (W3 M q (t0 + 0) (M.1 (32, 0, 0, 0) (12 * (4 * b + j)), M.1 (32, 0, 0, 0) (12 * (4 * b + j) + 1)))) → (¬ M.1 (32, 0, 0, 0) (12 * (4 * b + j) + 2) ≤ 0 → Q (W3 M q (t0 + 2) (M.1 (32, 0, 0, 0) (12 * (4 * b + j)), M.1 (32, 0, 0, 0) (12 * (4 * b + j) + 1)))) → w_X9_layRange_70 (nI b) (nI q) Q (nI (12 * (4 * b + j))) t0 (nI q) M := by
      intro t0 K k1 k2
      have w3 : ∀ w : Int32, Q (W3 M q w (M.1 (32, 0, 0, 0) (12 * (4 * b + j)), M.1 (32, 0, 0, 0) (12 * (4 * b + j) + 1))) → (vp_in (nI q) 60 ∧ (vp_in (nI (12 * (4 * b + j))) 288 ∧ (vp_in (nI q) 60 ∧ (∀ M101 : Mem, M101 = (mu (mu M (42, 0, 0, 0) q w) (43, 0, 0, 0) q ((mu M (42, 0, 0, 0) q w).1 (32, 0, 0, 0) (12 * (4 * b + j)))) → (vp_in (nI (12 * (4 * b + j) + 1)) 288 ∧ (vp_in (nI q) 60 ∧ (Q (mu M101 (44, 0, 0, 0) q (M101.1 (32, 0, 0, 0) (12 * (4 * b + j) + 1)))))))))) := by
        intro w hw
        refine ⟨v, vpT (by omega) (by omega), v, fun M1 e1 => ⟨vpT (by omega) (by omega), v, ?_⟩⟩
        have m32 : M1.1 (32, 0, 0, 0) = M.1 (32, 0, 0, 0) := by rw [e1, mu_ne _ _ _ (by simp), mu_ne _ _ _ (by simp)]
        rw [m32, e1, mu_ne _ _ _ (by simp)]
        exact hw
      unfold w_X9_layRange_70
      rw [a2, a1, nI_clamp (n := q) (by omega), nI_clamp (n := 12 * (4 * b + j) + 2) (by omega), nI_clamp (n := 12 * (4 * b + j) + 1) (by omega), nI_clamp (n := 12 * (4 * b + j)) (by omega)]
      refine ⟨vpT (by omega) (by omega), ?_⟩
      by_cases z : M.1 (32, 0, 0, 0) (12 * (4 * b + j) + 2) ≤ 0
      · rw [if_pos z]; exact w3 _ (k1 z)
      · rw [if_neg z]; exact w3 _ (k2 z)
    have hP2 := kC_2 (P := fun w => Q (W3 M q w (M.1 (32, 0, 0, 0) (12 * (4 * b + j)), M.1 (32, 0, 0, 0) (12 * (4 * b + j) + 1)))) hP
    by_cases z : M.1 (31, 0, 0, 0) b ≤ M.1 (32, 0, 0, 0) (12 * (4 * b + j) + 2)
    · rw [if_pos z] at hP2 ⊢
      exact s70 0 0 (fun z => by rw [if_pos z] at hP2; exact hP2) (fun z => by rw [if_neg z] at hP2; exact hP2)
    · rw [if_neg z] at hP2 ⊢
      exact s70 1 0 (fun z => by rw [if_pos z] at hP2; exact hP2) (fun z => by rw [if_neg z] at hP2; exact hP2)
  by_cases c2 : c = 2
  · subst c2
    rw [show innr 2 = 0 from rfl, if_pos (show nI 0 = 0 from rfl)]
    refine ⟨v, ?_⟩
    rw [h35, if_neg (show ¬ nI 2 = 1 by decide)]
    refine ⟨v, v, ?_⟩
    rw [mu_ne _ _ _ (by simp), h35, if_neg (show ¬ nI 2 = 3 by decide)]
    refine ⟨v, v, fun M1 e1 => ⟨v, v, ?_⟩⟩
    have m43 : M1.1 (43, 0, 0, 0) q = g q - 48 := by rw [e1, mu_row, upd_at, mu_ne _ _ _ (by simp), h34]
    rw [m43, e1, mu_ne _ _ _ (by simp), h34]
    exact hW (g q - 48, g q - 48) (fun _ => rfl)
  by_cases c3 : c = 3
  · subst c3
    rw [show innr 3 = 0 from rfl, if_pos (show nI 0 = 0 from rfl)]
    refine ⟨v, ?_⟩
    rw [h35, if_neg (show ¬ nI 3 = 1 by decide)]
    refine ⟨v, v, ?_⟩
    rw [mu_ne _ _ _ (by simp), h35, if_pos (show nI 3 = 3 from rfl)]
    have := (s4 rfl).1
    refine c9_three (g := g) (by rw [mu_ne _ _ _ (by simp)]; exact h34) (by omega) ⟨v, v, v, fun M1 e1 => ?_⟩
    rw [mu_row, upd_at] at e1
    rw [e1]
    exact hW (num3 g q, num3 g q) (fun _ => rfl)
  have h : c = 4 ∨ c = 8 ∨ c = 9 ∨ c = 5 ∨ c = 6 ∨ c = 7 := by omega
  have i1 : 1 ≤ innr c := by
    rcases h with h | h | h | h | h | h <;> subst h <;> decide
  obtain ⟨a1, a2, a3⟩ := s1 i1
  have := innr_2 c
  rw [if_neg (nI_ne0 (by omega) (by omega)), r1]
  refine ⟨v, fun x4 e4 => ?_⟩
  subst e4
  by_cases i2 : innr c = 2
  · obtain ⟨b1, b2, b3, b4⟩ := s2 i2
    rw [if_neg (by rw [nI_ler (by omega) (by omega)]; omega), r2, if_neg (by omega)]
    refine ⟨v, ?_⟩
    have eK : rgc g E (bcR M b) q c X Y = (andK X.1 Y.1, ndO (andK X.1 Y.1) (rg2 g E q c X Y)) := by
      rcases h with h | h | h | h | h | h <;> subst h
      · exact absurd i2 (by decide)
      · exact absurd i2 (by decide)
      · exact absurd i2 (by decide)
      · rfl
      · rfl
      · rfl
    rw [eK] at h0 hW
    exact c9_197 hCC hq hc (by omega) h9 (by omega) (by omega) (by omega) (by omega) (hX i1) (hY i2) (x3 i1) (y3 i2) h0 (fun z => hW _ (fun _ => (ndO_1 z _).symm))
  · rw [if_pos (by rw [nI_ler (by omega) (by omega)]; omega)]
    have eK : rgc g E (bcR M b) q c X Y = (X.1, ndO X.1 (rg2 g E q c X X)) := by
      rcases h with h | h | h | h | h | h <;> subst h
      · rfl
      · rfl
      · rfl
      · exact absurd rfl i2
      · exact absurd rfl i2
      · exact absurd rfl i2
    rw [eK] at h0 hW
    refine c9_197 hCC hq hc (by omega) h9 (by omega) (by omega) (by omega) (by omega) (hX i1) (hX i1) (x3 i1) (x3 i1) ?_ ?_
    · rw [andK_self (x3 i1)]; exact h0
    · rw [andK_self (x3 i1)]; exact fun z => hW _ (fun _ => (ndO_1 z _).symm)
