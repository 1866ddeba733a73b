/-! the class judges a row -/
theorem c8_both {x y : Int32} {Q : Int32 → Mem → Prop} {M : Mem} (hQ : Q (boO x y) M) : w_X8_bothOf x y Q M := by
  unfold w_X8_bothOf
  unfold boO at hQ
  by_cases a : x = 0
  · rw [if_pos a] at hQ ⊢; exact hQ
  rw [if_neg a] at hQ ⊢
  by_cases b : y = 0
  · rw [if_pos b] at hQ ⊢; exact hQ
  rw [if_neg b] at hQ ⊢
  by_cases d : x = 2
  · rw [if_pos d] at hQ ⊢; exact hQ
  rw [if_neg d] at hQ ⊢
  by_cases e : y = 2
  · rw [if_pos e] at hQ ⊢; exact hQ
  rw [if_neg e] at hQ ⊢
  exact hQ
theorem c8_either {x y : Int32} {Q : Int32 → Mem → Prop} {M : Mem} (hQ : Q (eiO x y) M) : w_X8_eitherOf x y Q M := by
  unfold w_X8_eitherOf
  unfold eiO at hQ
  by_cases a : x = 1
  · rw [if_pos a] at hQ ⊢; exact hQ
  rw [if_neg a] at hQ ⊢
  by_cases b : y = 1
  · rw [if_pos b] at hQ ⊢; exact hQ
  rw [if_neg b] at hQ ⊢
  by_cases d : x = 2
  · rw [if_pos d] at hQ ⊢; exact hQ
  rw [if_neg d] at hQ ⊢
  by_cases e : y = 2
  · rw [if_pos e] at hQ ⊢; exact hQ
  rw [if_neg e] at hQ ⊢
  exact hQ
theorem c8_not {x : Int32} {Q : Int32 → Mem → Prop} {M : Mem} (hQ : Q (noO x) M) : w_X8_notOf x Q M := by
  unfold w_X8_notOf
  unfold noO at hQ
  by_cases a : x = 2
  · rw [if_pos a] at hQ ⊢; exact hQ
  rw [if_neg a] at hQ ⊢
  by_cases b : x = 1
  · rw [if_pos b] at hQ ⊢; exact hQ
  rw [if_neg b] at hQ ⊢
  exact hQ
theorem cutL_if {v : Int64} {P : Int32 → Prop} (h : P (cutL v)) : (if 0 ≤ lg_cmp v (-1000000 : Int64) then (if lg_cmp v (1000000 : Int64) ≤ 0 then P v.toInt32 else P 1000000) else P (-1000000)) := by
  unfold cutL at h
  by_cases a : 0 ≤ lg_cmp v (-1000000 : Int64)
  · rw [if_pos a] at h ⊢
    by_cases b : lg_cmp v (1000000 : Int64) ≤ 0
    · rw [if_pos b] at h ⊢; exact h
    · rw [if_neg b] at h ⊢; exact h
  · rw [if_neg a] at h ⊢; exact h
def smO (s x y : Int32) : Int32 := if s = 43 then cutL (x.toInt64 + y.toInt64) else if s = 45 then cutL (x.toInt64 - y.toInt64) else cutL (x.toInt64 * y.toInt64)
theorem c8_sumOf {s x y : Int32} {Q : Int32 → Mem → Prop} {M : Mem} (hQ : Q (smO s x y) M) : w_X8_sumOf s x y Q M := by
  unfold w_X8_sumOf
  unfold smO at hQ
  intro z ez
  subst ez
  by_cases a : s = 43
  · rw [if_pos a] at hQ ⊢
    intro z ez
    subst ez
    exact cutL_if (P := fun v => Q v M) hQ
  rw [if_neg a] at hQ ⊢
  by_cases b : s = 45
  · rw [if_pos b] at hQ ⊢
    intro z ez
    subst ez
    exact cutL_if (P := fun v => Q v M) hQ
  rw [if_neg b] at hQ ⊢
  exact cutL_if (P := fun v => Q v M) hQ
theorem isL_n {m : Nat} (hm : m < 127) (h : isL (nI m)) : 97 ≤ m ∧ m ≤ 100 := by
  obtain ⟨h1, h2⟩ := h
  rw [nI_ltr (by omega) (by omega)] at h1
  rw [nI_ltl (by omega) (by omega)] at h2
  omega
/-- a sign of a column: its index -/
theorem isL_ix {s : Int32} (hs : ∃ m, 33 ≤ m ∧ m < 127 ∧ s = nI m) (h : isL s) : ∃ j, j < 4 ∧ s - 97 = nI j ∧ s = nI (97 + j) ∧ ∀ R, tx R s = R j := by
  obtain ⟨m, -, hm, e⟩ := hs
  subst e
  obtain ⟨a, b⟩ := isL_n hm h
  have e1 : nI m - 97 = nI (m - 97) := nI_sl (n := 97) a
  refine ⟨m - 97, by omega, e1, by rw [show 97 + (m - 97) = m by omega], fun R => ?_⟩
  unfold tx
  rw [e1, nI_clamp (by omega)]
theorem isD_ix {s : Int32} (hs : ∃ m, 33 ≤ m ∧ m < 127 ∧ s = nI m) (h : isD s) : ∃ j, j < 10 ∧ s - 48 = nI j ∧ s = nI (48 + j) := by
  obtain ⟨m, -, hm, e⟩ := hs
  subst e
  obtain ⟨h1, h2⟩ := h
  rw [nI_ltr (by omega) (by omega)] at h1
  rw [nI_ltl (by omega) (by omega)] at h2
  have a : (48 : Nat) ≤ m := by omega
  have b : m ≤ 57 := by omega
  exact ⟨m - 48, by omega, nI_sl (n := 48) a, by rw [show 48 + (m - 48) = m by omega]⟩
theorem CQ.sgn {M : Mem} {g : Nat → Int32} {n : Nat} {E : Nat → Nat} (h : CQ M g n E) {k : Nat} (hk : k < n) : ∃ m, 33 ≤ m ∧ m < 127 ∧ g k = nI m := h.2.2.2.2.2.2.1 k hk
theorem CQ.kp {M M1 : Mem} {g : Nat → Int32} {n : Nat} {E : Nat → Nat} (h : CQ M g n E) (h2 : ∀ i : ix, 11 ≤ i.1 → i.1 ≤ 17 → M1.1 i = M.1 i) : CQ M1 g n E := by
  unfold CQ at h ⊢
  rw [h2 (11, 0, 0, 0) (by simp) (by simp), h2 (12, 0, 0, 0) (by simp) (by simp), h2 (13, 0, 0, 0) (by simp) (by simp), h2 (14, 0, 0, 0) (by simp) (by simp), h2 (15, 0, 0, 0) (by simp) (by simp)]
  exact h
theorem c3_truthAt {M : Mem} {g : Nat → Int32} {n : Nat} {E : Nat → Nat} (hC : CQ M g n E) {q c : Nat} (hq : q < n) (hc : kd g q = c) (h10 : 10 ≤ c) {r2 : ix} {Q : Int32 → Mem → Prop} (hQ : Q (evc g E (M.1 r2) q c (M.1 (19, 0, 0, 0) (q + 1)) (M.1 (19, 0, 0, 0) (E (q + 1)))) M) : w_X3_truthAt (nI q) r2 4 Q M := by
  have hCC := hC
  obtain ⟨hn60, -, h11, h12, hn, hs, hsg, h13, h14⟩ := hC
  have hle : c ≤ 15 := by rw [← hc]; exact kd_le g q
  have hz : c ≠ 0 := by omega
  obtain ⟨s1, s2, -, -, -, s6⟩ := sh hn hs hq hc hz
  have hsn : g q = sgO c := by
    rcases kd_s hc hz with h | h | h
    · omega
    · omega
    · exact h.2
  unfold w_X3_truthAt
  rw [nI_clamp (n := q) (by omega), h12, hsn, nI_1]
  refine ⟨vpT (by omega) (by omega), fun x3 e3 => ?_⟩
  have hx : ∀ {Q2 : Int32 → Mem → Prop}, q + 1 < n → Q2 (M.1 (19, 0, 0, 0) (q + 1)) M → w_X8_at (19, 0, 0, 0) 60 (nI (q + 1)) Q2 M := fun h1 h2 => c8_at (by omega) (fun v hv => by rw [hv (q + 1) (by omega) rfl]; exact h2)
  have hy : ∀ {Q2 : Int32 → Mem → Prop}, q + 1 < n → E (q + 1) < n → Q2 (M.1 (19, 0, 0, 0) (E (q + 1))) M → w_X8_at (19, 0, 0, 0) 60 (M.1 (14, 0, 0, 0) q) Q2 M := fun h0 h1 h2 => c8_at (by omega) (fun v hv => by rw [hv (E (q + 1)) (by omega) ((h14 q hq).1 h0)]; exact h2)
  have h : c = 10 ∨ c = 11 ∨ c = 12 ∨ c = 13 ∨ c = 14 ∨ c = 15 := by omega
  rcases h with h | h | h | h | h | h <;> subst h <;> rw [e3]
  · obtain ⟨a1, a2, a3⟩ := s1 (by decide)
    obtain ⟨b1, b2, b3, b4⟩ := s2 (by decide)
    rw [if_neg (show ¬ sgO 10 = 109 by decide)]
    refine hx a1 ?_
    rw [if_neg (show ¬ sgO 10 = 33 by decide)]
    refine ⟨vpT (by omega) (by omega), hy a1 b2 ?_⟩
    rw [if_neg (show ¬ sgO 10 = 38 by decide), if_neg (show ¬ sgO 10 = 124 by decide), if_pos (show sgO 10 = 60 by decide)]
    have hQ : Q (lsO (M.1 (19, 0, 0, 0) (q + 1)) (M.1 (19, 0, 0, 0) (E (q + 1)))) M := hQ
    unfold lsO at hQ
    by_cases x1 : M.1 (19, 0, 0, 0) (q + 1) = -2000000
    · rw [if_pos x1] at hQ ⊢; exact hQ
    rw [if_neg x1] at hQ ⊢
    by_cases x2 : M.1 (19, 0, 0, 0) (E (q + 1)) = -2000000
    · rw [if_pos x2] at hQ ⊢; exact hQ
    rw [if_neg x2] at hQ ⊢
    by_cases x4 : M.1 (19, 0, 0, 0) (E (q + 1)) ≤ M.1 (19, 0, 0, 0) (q + 1)
    · rw [if_pos x4] at hQ ⊢; rw [if_pos rfl]; exact hQ
    · rw [if_neg x4] at hQ ⊢; rw [if_neg (by decide)]; exact hQ
  · obtain ⟨a1, a2, a3⟩ := s1 (by decide)
    obtain ⟨b1, b2, b3, b4⟩ := s2 (by decide)
    rw [if_neg (show ¬ sgO 11 = 109 by decide)]
    refine hx a1 ?_
    rw [if_neg (show ¬ sgO 11 = 33 by decide)]
    refine ⟨vpT (by omega) (by omega), hy a1 b2 ?_⟩
    rw [if_neg (show ¬ sgO 11 = 38 by decide), if_neg (show ¬ sgO 11 = 124 by decide), if_neg (show ¬ sgO 11 = 60 by decide)]
    have hQ : Q (lkO (M.1 (19, 0, 0, 0) (q + 1)) (M.1 (19, 0, 0, 0) (E (q + 1)))) M := hQ
    unfold lkO at hQ
    by_cases x1 : M.1 (19, 0, 0, 0) (q + 1) = -2000000
    · rw [if_pos x1] at hQ ⊢; exact hQ
    rw [if_neg x1] at hQ ⊢
    by_cases x2 : M.1 (19, 0, 0, 0) (E (q + 1)) = -2000000
    · rw [if_pos x2] at hQ ⊢; exact hQ
    rw [if_neg x2] at hQ ⊢
    by_cases x4 : M.1 (19, 0, 0, 0) (q + 1) = M.1 (19, 0, 0, 0) (E (q + 1))
    · rw [if_pos x4] at hQ ⊢; rw [if_neg (by decide)]; exact hQ
    · rw [if_neg x4] at hQ ⊢; rw [if_pos rfl]; exact hQ
  · obtain ⟨a1, a2, a3⟩ := s1 (by decide)
    obtain ⟨b1, b2, b3, b4⟩ := s2 (by decide)
    rw [if_neg (show ¬ sgO 12 = 109 by decide)]
    refine hx a1 ?_
    rw [if_neg (show ¬ sgO 12 = 33 by decide)]
    refine ⟨vpT (by omega) (by omega), hy a1 b2 ?_⟩
    rw [if_pos (show sgO 12 = 38 by decide)]
    exact c8_both hQ
  · obtain ⟨a1, a2, a3⟩ := s1 (by decide)
    obtain ⟨b1, b2, b3, b4⟩ := s2 (by decide)
    rw [if_neg (show ¬ sgO 13 = 109 by decide)]
    refine hx a1 ?_
    rw [if_neg (show ¬ sgO 13 = 33 by decide)]
    refine ⟨vpT (by omega) (by omega), hy a1 b2 ?_⟩
    rw [if_neg (show ¬ sgO 13 = 38 by decide), if_pos (show sgO 13 = 124 by decide)]
    exact c8_either hQ
  · obtain ⟨a1, a2, a3⟩ := s1 (by decide)
    rw [if_neg (show ¬ sgO 14 = 109 by decide)]
    refine hx a1 ?_
    rw [if_pos (show sgO 14 = 33 by decide)]
    exact c8_not hQ
  · obtain ⟨a1, a2⟩ := s6 rfl
    rw [if_pos (show sgO 15 = 109 by decide)]
    refine c8_at (by omega) (fun v hv => ?_)
    rw [hv (q + 1) (by omega) rfl, h12]
    obtain ⟨j, j1, j2, j3, j4⟩ := isL_ix (hsg (q + 1) a1) a2
    rw [j2]
    have hQ : Q (misO (tx (M.1 r2) (g (q + 1)))) M := hQ
    rw [j4] at hQ
    refine c8_at (by omega) (fun v2 hv2 => ?_)
    rw [hv2 j j1 rfl]
    unfold misO at hQ
    by_cases x4 : M.1 r2 j = 1000
    · rw [if_pos x4] at hQ ⊢; exact hQ
    · rw [if_neg x4] at hQ ⊢; exact hQ
theorem c3_termAt {M : Mem} {g : Nat → Int32} {n : Nat} {E : Nat → Nat} (hC : CQ M g n E) {q c : Nat} (hq : q < n) (hc : kd g q = c) (h1 : 1 ≤ c) (h9 : c ≤ 9) {r2 : ix} {Q : Int32 → Mem → Prop} (hQ : Q (evc g E (M.1 r2) q c (M.1 (19, 0, 0, 0) (q + 1)) (M.1 (19, 0, 0, 0) (E (q + 1)))) M) : w_X3_termAt (nI q) r2 4 Q M := by
  have hCC := hC
  obtain ⟨hn60, -, h11, h12, hn, hs, hsg, h13, h14⟩ := hC
  have hz : c ≠ 0 := by omega
  obtain ⟨s1, s2, -, -, s5, -⟩ := sh hn hs hq hc hz
  have hnum := (h14 q hq).2
  rw [hc] at hnum
  unfold w_X3_termAt
  rw [nI_clamp (n := q) (by omega), h12, nI_1]
  refine ⟨vpT (by omega) (by omega), fun x3 e3 => ?_⟩
  subst e3
  have hx : ∀ {Q2 : Int32 → Mem → Prop}, q + 1 < n → Q2 (M.1 (19, 0, 0, 0) (q + 1)) M → w_X8_at (19, 0, 0, 0) 60 (nI (q + 1)) Q2 M := fun h1 h2 => c8_at (by omega) (fun v hv => by rw [hv (q + 1) (by omega) rfl]; exact h2)
  have hy : ∀ {Q2 : Int32 → Mem → Prop}, q + 1 < n → E (q + 1) < n → Q2 (M.1 (19, 0, 0, 0) (E (q + 1))) M → w_X8_at (19, 0, 0, 0) 60 (M.1 (14, 0, 0, 0) q) Q2 M := fun h0 h1 h2 => c8_at (by omega) (fun v hv => by rw [hv (E (q + 1)) (by omega) ((h14 q hq).1 h0)]; exact h2)
  rcases kd_s hc hz with ⟨e, hl⟩ | ⟨e, hd, hl⟩ | ⟨h3, hsn⟩
  · subst e
    refine c8_isLetter (fun _ => ?_) (fun h => absurd hl h)
    rw [if_neg (by decide)]
    obtain ⟨j, j1, j2, j3, j4⟩ := isL_ix (hsg q hq) hl
    have hQ : Q (colO (tx (M.1 r2) (g q))) M := hQ
    rw [j4] at hQ
    rw [j2]
    refine c8_at (by omega) (fun v2 hv2 => ?_)
    rw [hv2 j j1 rfl]
    unfold colO at hQ
    by_cases x4 : M.1 r2 j = 1000
    · rw [if_pos x4] at hQ ⊢; exact hQ
    · rw [if_neg x4] at hQ ⊢; exact hQ
  · subst e
    refine c8_isLetter (fun h => absurd h hl) (fun _ => ?_)
    rw [if_pos rfl]
    refine c8_isFigure (fun _ => ?_) (fun h => absurd hd h)
    rw [if_neg (by decide)]
    refine ⟨vpT (by omega) (by omega), ?_⟩
    rw [hnum.2.2 rfl]
    exact hQ
  · have nl : ¬ isL (sgO c) ∧ ¬ isD (sgO c) := by
      have h : c = 3 ∨ c = 4 ∨ c = 5 ∨ c = 6 ∨ c = 7 ∨ c = 8 ∨ c = 9 := by omega
      rcases h with h | h | h | h | h | h | h <;> subst h <;> exact ⟨by decide, by decide⟩
    rw [hsn]
    refine c8_isLetter (fun h => absurd h nl.1) (fun _ => ?_)
    rw [if_pos rfl]
    refine c8_isFigure (fun h => absurd h nl.2) (fun _ => ?_)
    rw [if_pos rfl]
    by_cases c3 : c = 3
    · subst c3
      rw [if_pos (show sgO 3 = 35 by decide)]
      refine ⟨vpT (by omega) (by omega), ?_⟩
      rw [hnum.1 rfl]
      exact hQ
    have n35 : ¬ sgO c = 35 := by
      have h : c = 4 ∨ c = 5 ∨ c = 6 ∨ c = 7 ∨ c = 8 ∨ c = 9 := by omega
      rcases h with h | h | h | h | h | h <;> subst h <;> decide
    rw [if_neg n35]
    have i1 : 1 ≤ innr c := by
      have h : c = 4 ∨ c = 5 ∨ c = 6 ∨ c = 7 ∨ c = 8 ∨ c = 9 := by omega
      rcases h with h | h | h | h | h | h <;> subst h <;> decide
    obtain ⟨a1, a2, a3⟩ := s1 i1
    refine hx a1 ?_
    by_cases x1 : M.1 (19, 0, 0, 0) (q + 1) = -2000000
    · rw [if_pos x1]
      have : evc g E (M.1 r2) q c (M.1 (19, 0, 0, 0) (q + 1)) (M.1 (19, 0, 0, 0) (E (q + 1))) = -2000000 := by
        rw [x1]
        have h : c = 4 ∨ c = 5 ∨ c = 6 ∨ c = 7 ∨ c = 8 ∨ c = 9 := by omega
        rcases h with h | h | h | h | h | h <;> subst h <;> rfl
      rw [this] at hQ
      exact hQ
    rw [if_neg x1]
    by_cases c4 : c = 4
    · subst c4
      rw [if_pos (show sgO 4 = 126 by decide)]
      have hQ : Q (orN (M.1 (19, 0, 0, 0) (q + 1)) (-(M.1 (19, 0, 0, 0) (q + 1)))) M := hQ
      unfold orN at hQ
      rw [if_neg x1] at hQ
      exact hQ
    by_cases c9 : c = 9
    · subst c9
      rw [if_neg (show ¬ sgO 9 = 126 by decide), if_pos (show sgO 9 = 121 by decide)]
      have hQ : Q (orN (M.1 (19, 0, 0, 0) (q + 1)) (byO (M.1 (19, 0, 0, 0) (q + 1)))) M := hQ
      unfold orN byO at hQ
      rw [if_neg x1] at hQ
      exact hQ
    by_cases c8 : c = 8
    · subst c8
      rw [if_neg (show ¬ sgO 8 = 126 by decide), if_neg (show ¬ sgO 8 = 121 by decide), if_pos (show sgO 8 = 37 by decide)]
      refine ⟨vpT (by omega) (by omega), fun x5 e5 => ?_⟩
      obtain ⟨b1, b2, b3, b4⟩ := s5 rfl
      obtain ⟨j, j1, j2, j3⟩ := isD_ix (hsg _ b2) b3
      have hj : j ≠ 0 := fun z => b4 (by rw [j3, z]; rfl)
      have hQ : Q (orN (M.1 (19, 0, 0, 0) (q + 1)) (M.1 (19, 0, 0, 0) (q + 1) - M.1 (19, 0, 0, 0) (q + 1) / (g (E (q + 1)) - 48) * (g (E (q + 1)) - 48))) M := hQ
      unfold orN at hQ
      rw [if_neg x1] at hQ
      rw [hnum.2.1 rfl] at e5
      rw [← e5] at hQ
      rw [if_pos (by rw [e5, j2, nI_lel (by omega) (by omega)]; omega)]
      exact ⟨by rw [e5, j2]; exact nI_ne0 (by omega) (by omega), hQ⟩
    have i2 : innr c = 2 := by
      have h : c = 5 ∨ c = 6 ∨ c = 7 := by omega
      rcases h with h | h | h <;> subst h <;> decide
    obtain ⟨b1, b2, b3, b4⟩ := s2 i2
    have n3 : ¬ sgO c = 126 ∧ ¬ sgO c = 121 ∧ ¬ sgO c = 37 := by
      have h : c = 5 ∨ c = 6 ∨ c = 7 := by omega
      rcases h with h | h | h <;> subst h <;> exact ⟨by decide, by decide, by decide⟩
    rw [if_neg n3.1, if_neg n3.2.1, if_neg n3.2.2]
    refine ⟨vpT (by omega) (by omega), hy a1 b2 ?_⟩
    have eQ : evc g E (M.1 r2) q c (M.1 (19, 0, 0, 0) (q + 1)) (M.1 (19, 0, 0, 0) (E (q + 1))) = orN (M.1 (19, 0, 0, 0) (q + 1)) (orN (M.1 (19, 0, 0, 0) (E (q + 1))) (smO (sgO c) (M.1 (19, 0, 0, 0) (q + 1)) (M.1 (19, 0, 0, 0) (E (q + 1))))) := by
      have h : c = 5 ∨ c = 6 ∨ c = 7 := by omega
      rcases h with h | h | h <;> subst h <;> rfl
    rw [eQ] at hQ
    unfold orN at hQ
    rw [if_neg x1] at hQ
    by_cases x2 : M.1 (19, 0, 0, 0) (E (q + 1)) = -2000000
    · rw [if_pos x2] at hQ ⊢; exact hQ
    rw [if_neg x2] at hQ ⊢
    exact c8_sumOf hQ
theorem c3_judge_10 {g : Nat → Int32} {n : Nat} {E : Nat → Nat} {R : Nat → Int32} {M0 : Mem} (hC : CQ M0 g n E) {r2 : ix} (hr2 : r2.1 ≠ 19) (hR : M0.1 r2 = R) {Q : Int32 → Mem → Prop} (hQ : ∀ M1, onl M0 M1 [19] → Q (ev g n E R 0) M1) : ∀ p x M, x = dn p → p ≤ n → onl M0 M [19] → (∀ k, p ≤ k → k < n → kd g k ≠ 0 → M.1 (19, 0, 0, 0) k = ev g n E R k) → w_X3_judge_10 r2 4 Q (p + 1) x M := by
  intro p
  have hn := hC.2.2.2.2.1
  have hs := hC.2.2.2.2.2.1
  have hn60 := hC.1
  induction p with
  | zero =>
    intro x M hx hp hf hE
    rw [w_X3_judge_10, hx, if_pos dn_0]
    have h0 : kd g 0 ≠ 0 := kd_nz hn hC.2.1 (show stk g 0 = some [1] from rfl) (by omega)
    rw [hE 0 (by omega) hC.2.1 h0]
    exact hQ M hf
  | succ q ih =>
    intro x M hx hp hf hE
    rw [dn_s] at hx
    have hC1 : CQ M g n E := hC.kp (fun i h1 h2 => hf.1 i (by simp; omega))
    have h13 := hC1.2.2.2.2.2.2.2.1 q (by omega)
    rw [w_X3_judge_10, hx, if_neg (nI_nn (by omega)), nI_clamp (n := q) (by omega), h13]
    obtain ⟨y, hy⟩ : ∃ y, y = nI q + (-1) := ⟨_, rfl⟩
    rw [← hy]
    refine ⟨vpT (by omega) (by omega), ?_⟩
    have hR1 : M.1 r2 = R := by rw [hf.1 _ (by simpa using hr2)]; exact hR
    have val : kd g q ≠ 0 → evc g E (M.1 r2) q (kd g q) (M.1 (19, 0, 0, 0) (q + 1)) (M.1 (19, 0, 0, 0) (E (q + 1))) = ev g n E R q := by
      intro hz
      rw [ev_eq hn hs (by omega) hz, hR1]
      obtain ⟨s1, s2, -⟩ := sh hn hs (by omega : q < n) rfl hz
      refine evc_c (by omega) (kd_le g q) (fun z => ?_) (fun z => ?_) (fun _ => rfl) (fun _ => rfl)
      · obtain ⟨a, b, -⟩ := s1 z
        exact hE (q + 1) (by omega) a b
      · obtain ⟨a, b, d, -⟩ := s2 z
        exact hE (E (q + 1)) (by omega) b d
    have next : ∀ v, v = ev g n E R q → w_X3_judge_10 r2 4 Q (q + 1) y (mu M (19, 0, 0, 0) q v) := by
      intro v hv
      refine ih y _ hy (by omega) (hf.tr (onl.mr _ (by simp))) (fun k hk hkn hz => ?_)
      rw [mu_row]
      by_cases e : k = q
      · subst e; rw [upd_at]; exact hv
      · rw [upd_ne _ _ e]; exact hE k (by omega) hkn hz
    have hrol := hC1.2.2.2.2.2.1 q (by omega)
    obtain ⟨r, T, hst, -⟩ := hrol
    have hr5 := stk_mem q _ hst r (by simp)
    rw [rol_of hst]
    by_cases r1 : r = 1
    · subst r1
      rw [if_pos (show nI 1 = 1 from rfl)]
      have hz := kd_nz hn (by omega) hst (by omega)
      rcases kd_hi hz with h | h
      · refine c3_truthAt hC1 (by omega) rfl h.2 ⟨vpT (by omega) (by omega), next _ (val hz)⟩
      · rw [rol_of hst] at h; omega
    rw [if_neg (show ¬ nI r = 1 from nIne (by omega) (by decide) r1)]
    refine ⟨vpT (by omega) (by omega), ?_⟩
    by_cases r22 : r = 2
    · subst r22
      rw [if_pos (show nI 2 = 2 from rfl)]
      have hz := kd_nz hn (by omega) hst (by omega)
      rcases kd_hi hz with h | h
      · rw [rol_of hst] at h; omega
      · refine c3_termAt hC1 (by omega) rfl (by omega) h.2 ⟨vpT (by omega) (by omega), next _ (val hz)⟩
    rw [if_neg (show ¬ nI r = 2 from nIne (by omega) (by decide) r22)]
    refine ih y M hy (by omega) hf (fun k hk hkn hz => ?_)
    by_cases e : k = q
    · subst e
      rw [kd_o hst (by omega)] at hz
      exact absurd rfl hz
    · exact hE k (by omega) hkn hz
theorem c3_judge {g : Nat → Int32} {n : Nat} {E : Nat → Nat} {M : Mem} (hC : CQ M g n E) {r2 : ix} (hr2 : r2.1 ≠ 19) {Q : Int32 → Mem → Prop} (hQ : ∀ M1, onl M M1 [19] → Q (ev g n E (M.1 r2) 0) M1) : w_X3_judge r2 4 Q M := by
  intro x e
  rw [hC.2.2.1, dn_of] at e
  exact ⟨n + 1, c3_judge_10 hC hr2 rfl hQ n x M e (Nat.le_refl n) onl.rf (fun k h1 h2 => absurd h2 (by omega))⟩
