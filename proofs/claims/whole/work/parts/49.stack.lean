/-! the stack of what must still come -/
theorem psh_len (c : Nat) : (psh c).length ≤ 3 := by
  unfold psh
  repeat' split
  all_goals simp
theorem psh_mem {c r : Nat} (h : r ∈ psh c) : 1 ≤ r ∧ r ≤ 5 := by
  unfold psh at h
  repeat' split at h
  all_goals simp at h
  all_goals omega
theorem stk_s {g : Nat → Int32} {k r : Nat} {T : List Nat} (h : stk g k = some (r :: T)) : stk g (k + 1) = if knd r (g k) = 0 then none else some (psh (knd r (g k)) ++ T) := by
  show (match stk g k with | some (r :: T) => if knd r (g k) = 0 then none else some (psh (knd r (g k)) ++ T) | _ => none) = _
  rw [h]
theorem stk_e {g : Nat → Int32} {k : Nat} (h : stk g k = some []) : stk g (k + 1) = none := by
  show (match stk g k with | some (r :: T) => if knd r (g k) = 0 then none else some (psh (knd r (g k)) ++ T) | _ => none) = _
  rw [h]
theorem stk_n {g : Nat → Int32} {k : Nat} (h : stk g k = none) : stk g (k + 1) = none := by
  show (match stk g k with | some (r :: T) => if knd r (g k) = 0 then none else some (psh (knd r (g k)) ++ T) | _ => none) = _
  rw [h]
theorem stk_congr {g g2 : Nat → Int32} : ∀ k, (∀ i, i < k → g i = g2 i) → stk g k = stk g2 k
  | 0, _ => rfl
  | k + 1, h => by
    have ih := stk_congr k (fun i hi => h i (by omega))
    show (match stk g k with | some (r :: T) => if knd r (g k) = 0 then none else some (psh (knd r (g k)) ++ T) | _ => none) = (match stk g2 k with | some (r :: T) => if knd r (g2 k) = 0 then none else some (psh (knd r (g2 k)) ++ T) | _ => none)
    rw [ih, h k (by omega)]
theorem stk_some {g : Nat → Int32} {k : Nat} {S : List Nat} (h : stk g (k + 1) = some S) : ∃ r T, stk g k = some (r :: T) ∧ knd r (g k) ≠ 0 ∧ S = psh (knd r (g k)) ++ T := by
  cases h0 : stk g k with
  | none => rw [stk_n h0] at h; cases h
  | some S0 =>
    cases S0 with
    | nil => rw [stk_e h0] at h; cases h
    | cons r T =>
      rw [stk_s h0] at h
      by_cases hk : knd r (g k) = 0
      · rw [if_pos hk] at h; cases h
      · rw [if_neg hk] at h
        cases h
        exact ⟨r, T, rfl, hk, rfl⟩
theorem stk_dn {g : Nat → Int32} : ∀ d k S, stk g (k + d) = some S → ∃ S2, stk g k = some S2
  | 0, _, S, h => ⟨S, h⟩
  | d + 1, k, S, h => by
    obtain ⟨r, T, h1, -⟩ := stk_some (k := k + d) h
    exact stk_dn d k _ h1
theorem stk_up {g : Nat → Int32} {n k : Nat} {S : List Nat} (h : stk g n = some S) (hk : k < n) : ∃ r T, stk g k = some (r :: T) ∧ knd r (g k) ≠ 0 ∧ stk g (k + 1) = some (psh (knd r (g k)) ++ T) := by
  obtain ⟨S2, h2⟩ := stk_dn (n - (k + 1)) (k + 1) S (by rw [show k + 1 + (n - (k + 1)) = n by omega]; exact h)
  obtain ⟨r, T, h1, h3, h4⟩ := stk_some h2
  exact ⟨r, T, h1, h3, by rw [h2, h4]⟩
theorem stk_len {g : Nat → Int32} : ∀ k S, stk g k = some S → S.length ≤ 1 + 2 * k
  | 0, S, h => by cases h; simp
  | k + 1, S, h => by
    obtain ⟨r, T, h1, -, h2⟩ := stk_some h
    have := stk_len k _ h1
    have h3 := psh_len (knd r (g k))
    rw [h2, List.length_append]
    simp only [List.length_cons] at this
    omega
theorem stk_mem {g : Nat → Int32} : ∀ k S, stk g k = some S → ∀ r, r ∈ S → 1 ≤ r ∧ r ≤ 5
  | 0, S, h, r, hr => by cases h; simp at hr; omega
  | k + 1, S, h, r, hr => by
    obtain ⟨r0, T, h1, -, h2⟩ := stk_some h
    rw [h2, List.mem_append] at hr
    rcases hr with hr | hr
    · exact psh_mem hr
    · exact stk_mem k _ h1 r (List.mem_cons_of_mem _ hr)
theorem stkA_upd {A : Nat → Int32} {v : Int32} : ∀ {T : List Nat} {d : Nat}, T.length ≤ d → stkA A T → stkA (upd A d v) T
  | [], _, _, _ => trivial
  | r :: T, d, hd, h => by
    simp only [List.length_cons] at hd
    exact ⟨by rw [upd_ne _ _ (by omega)]; exact h.1, stkA_upd (by omega) h.2⟩
def PS (M : Mem) (T : List Nat) : Prop := M.1 (11, 0, 0, 0) 7 = nI T.length ∧ stkA (M.1 (17, 0, 0, 0)) T
def frP (M M1 : Mem) : Prop := onl M M1 [11, 17] ∧ ∀ j, j ≠ 7 → M1.1 (11, 0, 0, 0) j = M.1 (11, 0, 0, 0) j
theorem frP.tr {M M1 M2 : Mem} (h : frP M M1) (h2 : frP M1 M2) : frP M M2 := ⟨h.1.tr h2.1, fun j hj => (h2.2 j hj).trans (h.2 j hj)⟩
theorem frP.rf {M : Mem} : frP M M := ⟨onl.rf, fun _ _ => rfl⟩
theorem c1_await {r : Nat} {a : Int32} (ha : a = nI r) {T : List Nat} (hT : T.length < 121) {Q : Mem → Prop} {M : Mem} (h : PS M T) (hQ : ∀ M1, frP M M1 → PS M1 (r :: T) → Q M1) : w_X1_await a Q M := by
  unfold w_X1_await
  rw [h.1, if_neg (by rw [nI_lel (by omega) (by omega)]; omega)]
  refine ⟨vpT (by omega) (by omega), fun M29 e => ?_⟩
  rw [nI_clamp (by omega)] at e
  have e7 : (mu M (17, 0, 0, 0) T.length a).1 (11, 0, 0, 0) 7 = nI T.length := by rw [mu_ne _ _ _ (by simp)]; exact h.1
  rw [e7, nI_1] at e
  refine hQ M29 ⟨?_, fun j hj => ?_⟩ ⟨?_, ?_⟩
  · rw [e]
    exact (onl.mr (l := [11, 17]) (i := (17, 0, 0, 0)) _ (by simp)).tr (onl.mr _ (by simp))
  · rw [e, mu_row, upd_ne _ _ hj, mu_ne _ _ _ (by simp)]
  · rw [e, mu_row, upd_at, List.length_cons]
  · rw [e, mu_ne _ _ _ (by simp), mu_row]
    exact ⟨by rw [upd_at]; exact ha, stkA_upd (Nat.le_refl _) h.2⟩
theorem c1_truth {s : Int32} {T : List Nat} (hT : T.length < 119) {Q : Int32 → Mem → Prop} {M : Mem} (h : PS M T) (hQ1 : ∀ M1, frP M M1 → PS M1 (psh (trK s) ++ T) → trK s ≠ 0 → Q 1 M1) (hQ0 : trK s = 0 → Q 0 M) : w_X1_beginsTruth s Q M := by
  unfold w_X1_beginsTruth
  by_cases e : s = 33
  · subst e
    rw [if_pos rfl]
    exact c1_await (r := 1) rfl (by omega) h (fun M1 f1 h1 => hQ1 M1 f1 h1 (by decide))
  rw [if_neg e]
  by_cases e2 : s = 38
  · subst e2
    rw [if_pos rfl]
    exact c1_await (r := 1) rfl (by omega) h (fun M1 f1 h1 => c1_await (r := 1) rfl (by simp; omega) h1 (fun M2 f2 h2 => hQ1 M2 (f1.tr f2) h2 (by decide)))
  rw [if_neg e2]
  by_cases e3 : s = 60
  · subst e3
    rw [if_pos rfl]
    exact c1_await (r := 2) rfl (by omega) h (fun M1 f1 h1 => c1_await (r := 2) rfl (by simp; omega) h1 (fun M2 f2 h2 => hQ1 M2 (f1.tr f2) h2 (by decide)))
  rw [if_neg e3]
  by_cases e4 : s = 61
  · subst e4
    rw [if_pos rfl]
    exact c1_await (r := 2) rfl (by omega) h (fun M1 f1 h1 => c1_await (r := 2) rfl (by simp; omega) h1 (fun M2 f2 h2 => hQ1 M2 (f1.tr f2) h2 (by decide)))
  rw [if_neg e4]
  by_cases e5 : s = 109
  · subst e5
    rw [if_pos rfl]
    exact c1_await (r := 3) rfl (by omega) h (fun M1 f1 h1 => hQ1 M1 f1 h1 (by decide))
  rw [if_neg e5]
  by_cases e6 : s = 124
  · subst e6
    rw [if_pos rfl]
    exact c1_await (r := 1) rfl (by omega) h (fun M1 f1 h1 => c1_await (r := 1) rfl (by simp; omega) h1 (fun M2 f2 h2 => hQ1 M2 (f1.tr f2) h2 (by decide)))
  rw [if_neg e6]
  refine hQ0 ?_
  unfold trK
  rw [if_neg e3, if_neg e4, if_neg e2, if_neg e6, if_neg e, if_neg e5]
theorem c8_isLetter {s : Int32} {Q : Int32 → Mem → Prop} {M : Mem} (h1 : isL s → Q 1 M) (h0 : ¬ isL s → Q 0 M) : w_X8_isLetter s Q M := by
  unfold w_X8_isLetter
  by_cases a : s < 97
  · rw [if_pos a]; exact h0 (fun h => h.1 a)
  · rw [if_neg a]
    by_cases b : 100 < s
    · rw [if_pos b]; exact h0 (fun h => h.2 b)
    · rw [if_neg b]; exact h1 ⟨a, b⟩
theorem c8_isFigure {s : Int32} {Q : Int32 → Mem → Prop} {M : Mem} (h1 : isD s → Q 1 M) (h0 : ¬ isD s → Q 0 M) : w_X8_isFigure s Q M := by
  unfold w_X8_isFigure
  by_cases a : s < 48
  · rw [if_pos a]; exact h0 (fun h => h.1 a)
  · rw [if_neg a]
    by_cases b : 57 < s
    · rw [if_pos b]; exact h0 (fun h => h.2 b)
    · rw [if_neg b]; exact h1 ⟨a, b⟩
theorem c1_term {s : Int32} {T : List Nat} (hT : T.length < 119) {Q : Int32 → Mem → Prop} {M : Mem} (h : PS M T) (hQ1 : ∀ M1, frP M M1 → PS M1 (psh (tmK s) ++ T) → tmK s ≠ 0 → Q 1 M1) (hQ0 : tmK s = 0 → Q 0 M) : w_X1_beginsTerm s Q M := by
  unfold w_X1_beginsTerm
  by_cases e : s = 35
  · subst e
    rw [if_pos rfl]
    exact c1_await (r := 4) rfl (by omega) h (fun M1 f1 h1 => c1_await (r := 4) rfl (by simp; omega) h1 (fun M2 f2 h2 => c1_await (r := 4) rfl (by simp; omega) h2 (fun M3 f3 h3 => hQ1 M3 ((f1.tr f2).tr f3) h3 (by decide))))
  rw [if_neg e]
  by_cases e2 : s = 37
  · subst e2
    rw [if_pos rfl]
    exact c1_await (r := 5) rfl (by omega) h (fun M1 f1 h1 => c1_await (r := 2) rfl (by simp; omega) h1 (fun M2 f2 h2 => hQ1 M2 (f1.tr f2) h2 (by decide)))
  rw [if_neg e2]
  by_cases e3 : s = 42
  · subst e3
    rw [if_pos rfl]
    exact c1_await (r := 2) rfl (by omega) h (fun M1 f1 h1 => c1_await (r := 2) rfl (by simp; omega) h1 (fun M2 f2 h2 => hQ1 M2 (f1.tr f2) h2 (by decide)))
  rw [if_neg e3]
  by_cases e4 : s = 43
  · subst e4
    rw [if_pos rfl]
    exact c1_await (r := 2) rfl (by omega) h (fun M1 f1 h1 => c1_await (r := 2) rfl (by simp; omega) h1 (fun M2 f2 h2 => hQ1 M2 (f1.tr f2) h2 (by decide)))
  rw [if_neg e4]
  by_cases e5 : s = 45
  · subst e5
    rw [if_pos rfl]
    exact c1_await (r := 2) rfl (by omega) h (fun M1 f1 h1 => c1_await (r := 2) rfl (by simp; omega) h1 (fun M2 f2 h2 => hQ1 M2 (f1.tr f2) h2 (by decide)))
  rw [if_neg e5]
  by_cases e6 : s = 121
  · subst e6
    rw [if_pos rfl]
    exact c1_await (r := 2) rfl (by omega) h (fun M1 f1 h1 => hQ1 M1 f1 h1 (by decide))
  rw [if_neg e6]
  by_cases e7 : s = 126
  · subst e7
    rw [if_pos rfl]
    exact c1_await (r := 2) rfl (by omega) h (fun M1 f1 h1 => hQ1 M1 f1 h1 (by decide))
  rw [if_neg e7]
  refine c8_isLetter (fun hl => ?_) (fun hl => ?_)
  · rw [if_neg (by decide)]
    have ek : tmK s = 1 := by unfold tmK; rw [if_pos hl]
    rw [ek] at hQ1
    exact hQ1 M frP.rf h (by decide)
  · rw [if_pos rfl]
    refine c8_isFigure (fun hd => ?_) (fun hd => ?_)
    · rw [if_neg (by decide)]
      have ek : tmK s = 2 := by unfold tmK; rw [if_neg hl, if_pos hd]
      rw [ek] at hQ1
      exact hQ1 M frP.rf h (by decide)
    · rw [if_pos rfl]
      refine hQ0 ?_
      unfold tmK
      rw [if_neg hl, if_neg hd, if_neg e, if_neg e7, if_neg e4, if_neg e5, if_neg e3, if_neg e2, if_neg e6]
