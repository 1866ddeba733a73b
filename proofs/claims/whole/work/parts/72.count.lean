/-! counts; unlike rows; the class's side of answer -/
noncomputable def one (P : Prop) : Nat := @ite Nat P (Classical.propDecidable P) 1 0
theorem one_t {P : Prop} (h : P) : one P = 1 := @if_pos P (Classical.propDecidable P) h Nat 1 0
theorem one_f {P : Prop} (h : ¬ P) : one P = 0 := @if_neg P (Classical.propDecidable P) h Nat 1 0
theorem one_le (P : Prop) : one P ≤ 1 := by
  by_cases h : P
  · rw [one_t h]; omega
  · rw [one_f h]; omega
noncomputable def crN (P : Nat → Nat → Prop) (b : Nat) : Nat → Nat
  | 0 => 0
  | r + 1 => crN P b r + one (P b r)
noncomputable def cbN (P : Nat → Nat → Prop) (mn : Nat → Nat) : Nat → Nat
  | 0 => 0
  | b + 1 => cbN P mn b + crN P b (mn b)
theorem crN_le (P : Nat → Nat → Prop) (b : Nat) : ∀ r, crN P b r ≤ r
  | 0 => Nat.le_refl _
  | r + 1 => by
    have := crN_le P b r
    have := one_le (P b r)
    show crN P b r + one (P b r) ≤ r + 1
    omega
theorem cbN_le (P : Nat → Nat → Prop) {mn : Nat → Nat} (h : ∀ b, b < 6 → mn b ≤ 8) : ∀ b, b ≤ 6 → cbN P mn b ≤ 8 * b
  | 0, _ => Nat.le_refl _
  | b + 1, hb => by
    have h1 := cbN_le P h b (by omega)
    have h2 := crN_le P b (mn b)
    have h3 := h b (by omega)
    show cbN P mn b + crN P b (mn b) ≤ 8 * (b + 1)
    omega
def like (rr : Nat → Int32) (b r b2 r2 : Nat) : Prop := ∀ c, c < 4 → rr (32 * b + 4 * r + c) = rr (32 * b2 + 4 * r2 + c)
/-- ahead of the row r of the block b -/
def erl (mn : Nat → Nat) (b r b2 r2 : Nat) : Prop := (b2 < b ∧ r2 < mn b2) ∨ (b2 = b ∧ r2 < r)
def fst (mn : Nat → Nat) (rr : Nat → Int32) (b r : Nat) : Prop := ∀ b2 r2, erl mn b r b2 r2 → ¬ like rr b r b2 r2
def ky4 (R : Nat → Int32) : Nat → Int64
  | 0 => 0
  | c + 1 => ky4 R c * 2000 + (R c - (-999)).toInt64
theorem bm64 {x : Int} (h1 : -9223372036854775808 ≤ x) (h2 : x < 9223372036854775808) : x.bmod (2 ^ 64) = x := Int.bmod_eq_of_le (by omega) (by omega)
theorem ent_d {v : Int32} (h : ent v) : (v - (-999)).toInt = v.toInt + 999 ∧ 0 ≤ v.toInt + 999 ∧ v.toInt + 999 < 2000 := by
  obtain ⟨h1, h2⟩ := h
  rw [i32_lt, show (-999 : Int32).toInt = -999 by decide] at h1
  rw [i32_lt, show (1000 : Int32).toInt = 1000 by decide] at h2
  refine ⟨?_, by omega, by omega⟩
  rw [Int32.toInt_sub, show (-999 : Int32).toInt = -999 by decide, bm32 (by omega) (by omega)]
  omega
def p2k : Nat → Int
  | 0 => 1
  | c + 1 => p2k c * 2000
theorem ky4_v {R : Nat → Int32} (h : ∀ c, c < 4 → ent (R c)) : ∀ c, c ≤ 4 → 0 ≤ (ky4 R c).toInt ∧ (ky4 R c).toInt < p2k c ∧ (c < 4 → (ky4 R (c + 1)).toInt = (ky4 R c).toInt * 2000 + (R c).toInt + 999) := by
  have step : ∀ c, c < 4 → p2k c ≤ 8000000000 → 0 ≤ (ky4 R c).toInt → (ky4 R c).toInt < p2k c → (ky4 R (c + 1)).toInt = (ky4 R c).toInt * 2000 + (R c).toInt + 999 := by
    intro c hc hp h0 h1
    obtain ⟨e, e1, e2⟩ := ent_d (h c hc)
    show (ky4 R c * 2000 + (R c - (-999)).toInt64).toInt = _
    have em : (ky4 R c * 2000).toInt = (ky4 R c).toInt * 2000 := by
      rw [Int64.toInt_mul, show (2000 : Int64).toInt = 2000 by decide]
      exact bm64 (by omega) (by omega)
    rw [Int64.toInt_add, Int32.toInt_toInt64, e, em, bm64 (by omega) (by omega)]
    omega
  have p0 : p2k 0 = 1 := rfl
  have p1 : p2k 1 = 2000 := rfl
  have p2 : p2k 2 = 4000000 := rfl
  have p3 : p2k 3 = 8000000000 := rfl
  have p4 : p2k 4 = 16000000000000 := rfl
  have k0 : (ky4 R 0).toInt = 0 := rfl
  have b0 := ent_d (h 0 (by omega))
  have b1 := ent_d (h 1 (by omega))
  have b2 := ent_d (h 2 (by omega))
  have b3 := ent_d (h 3 (by omega))
  have s0 : (ky4 R 1).toInt = (ky4 R 0).toInt * 2000 + (R 0).toInt + 999 := step 0 (by omega) (by omega) (by omega) (by omega)
  have s1 : (ky4 R 2).toInt = (ky4 R 1).toInt * 2000 + (R 1).toInt + 999 := step 1 (by omega) (by omega) (by omega) (by omega)
  have s2 : (ky4 R 3).toInt = (ky4 R 2).toInt * 2000 + (R 2).toInt + 999 := step 2 (by omega) (by omega) (by omega) (by omega)
  have s3 : (ky4 R 4).toInt = (ky4 R 3).toInt * 2000 + (R 3).toInt + 999 := step 3 (by omega) (by omega) (by omega) (by omega)
  intro c hc
  have hcs : c = 0 ∨ c = 1 ∨ c = 2 ∨ c = 3 ∨ c = 4 := by omega
  rcases hcs with h | h | h | h | h <;> subst h
  · exact ⟨by omega, by omega, fun _ => s0⟩
  · exact ⟨by omega, by omega, fun _ => s1⟩
  · exact ⟨by omega, by omega, fun _ => s2⟩
  · exact ⟨by omega, by omega, fun _ => s3⟩
  · exact ⟨by omega, by omega, fun q => absurd q (by omega)⟩
theorem ky4_inj {R R2 : Nat → Int32} (h : ∀ c, c < 4 → ent (R c)) (h2 : ∀ c, c < 4 → ent (R2 c)) (e : ky4 R 4 = ky4 R2 4) : ∀ c, c < 4 → R c = R2 c := by
  have e : (ky4 R 4).toInt = (ky4 R2 4).toInt := by rw [e]
  have s0 := (ky4_v h 0 (by omega)).2.2 (by omega)
  have s1 := (ky4_v h 1 (by omega)).2.2 (by omega)
  have s2 := (ky4_v h 2 (by omega)).2.2 (by omega)
  have s3 := (ky4_v h 3 (by omega)).2.2 (by omega)
  have t0 := (ky4_v h2 0 (by omega)).2.2 (by omega)
  have t1 := (ky4_v h2 1 (by omega)).2.2 (by omega)
  have t2 := (ky4_v h2 2 (by omega)).2.2 (by omega)
  have t3 := (ky4_v h2 3 (by omega)).2.2 (by omega)
  have k0 : (ky4 R 0).toInt = 0 := rfl
  have l0 : (ky4 R2 0).toInt = 0 := rfl
  have b0 := ent_d (h 0 (by omega))
  have b1 := ent_d (h 1 (by omega))
  have b2 := ent_d (h 2 (by omega))
  have b3 := ent_d (h 3 (by omega))
  have c0 := ent_d (h2 0 (by omega))
  have c1 := ent_d (h2 1 (by omega))
  have c2 := ent_d (h2 2 (by omega))
  have c3 := ent_d (h2 3 (by omega))
  rw [show (3 : Nat) + 1 = 4 from rfl] at s3 t3
  rw [show (2 : Nat) + 1 = 3 from rfl] at s2 t2
  rw [show (1 : Nat) + 1 = 2 from rfl] at s1 t1
  rw [show (0 : Nat) + 1 = 1 from rfl] at s0 t0
  have q3 : (R 3).toInt = (R2 3).toInt := by omega
  have q2 : (R 2).toInt = (R2 2).toInt := by omega
  have q1 : (R 1).toInt = (R2 1).toInt := by omega
  have q0 : (R 0).toInt = (R2 0).toInt := by omega
  intro c hc
  have hcs : c = 0 ∨ c = 1 ∨ c = 2 ∨ c = 3 := by omega
  rcases hcs with h | h | h | h <;> subst h
  · exact Int32.toInt_inj.mp q0
  · exact Int32.toInt_inj.mp q1
  · exact Int32.toInt_inj.mp q2
  · exact Int32.toInt_inj.mp q3
theorem ky4_c {R R2 : Nat → Int32} (h : ∀ c, c < 4 → R c = R2 c) : ky4 R 4 = ky4 R2 4 := by
  show (((((0 : Int64) * 2000 + (R 0 - (-999)).toInt64) * 2000 + (R 1 - (-999)).toInt64) * 2000 + (R 2 - (-999)).toInt64) * 2000 + (R 3 - (-999)).toInt64) = (((((0 : Int64) * 2000 + (R2 0 - (-999)).toInt64) * 2000 + (R2 1 - (-999)).toInt64) * 2000 + (R2 2 - (-999)).toInt64) * 2000 + (R2 3 - (-999)).toInt64)
  rw [h 0 (by omega), h 1 (by omega), h 2 (by omega), h 3 (by omega)]
theorem lg0 {a b : Int64} : lg_cmp a b = 0 ↔ a = b := by
  unfold lg_cmp
  by_cases h : a > b
  · rw [if_pos h]
    refine ⟨fun q => absurd q (by decide), fun q => ?_⟩
    subst q
    exact absurd h (by rw [gt_iff_lt, Int64.lt_iff_toInt_lt]; omega)
  · rw [if_neg h]
    by_cases e : a = b
    · rw [if_pos e]; exact ⟨fun _ => e, fun _ => rfl⟩
    · rw [if_neg e]; exact ⟨fun q => absurd q (by decide), fun q => absurd q e⟩
/-- the keys that were noted -/
def KI (M : Mem) (m : Nat) (P : Int64 → Prop) : Prop := M.1 (26, 0, 0, 0) 0 = nI m ∧ ∀ k, P k ↔ ∃ i, i < m ∧ M.2 i = k
theorem ml_1 (M : Mem) (k : Nat) (v : Int64) : (ml M k v).1 = M.1 := rfl
theorem ml_2 (M : Mem) (k j : Nat) (v : Int64) : (ml M k v).2 j = if j = k then v else M.2 j := rfl
theorem c4_38 {r1 : ix} {key : Int64} {M : Mem} {m : Nat} {P : Int64 → Prop} (hm : m < 48) (hK : KI M m P) {Q : Mem → Prop} (hQ1 : P key → Q M) (hQ0 : ¬ P key → ∀ M1, (∀ i : ix, i.1 ≠ 26 → M1.1 i = M.1 i) → KI M1 (m + 1) (fun k => P k ∨ k = key) → Q M1) : ∀ d i, i + d = m → (∀ j, j < i → M.2 j ≠ key) → w_X4_note_38 r1 4 Q (d + 1) key (nI i) M := by
  intro d
  induction d with
  | zero =>
    intro i hi hn
    have : i = m := by omega
    subst this
    rw [w_X4_note_38, hK.1, if_pos (by rw [nI_leI (by omega) (by omega)]; omega), if_neg (by rw [nI_lel (by omega) (by omega)]; omega), nI_clamp (by omega)]
    refine ⟨vpT (by omega) (by omega), fun M1 e1 => ?_⟩
    have hP : ¬ P key := fun q => by
      obtain ⟨j, h1, h2⟩ := (hK.2 key).mp q
      exact hn j h1 h2
    rw [ml_1, hK.1, nI_1] at e1
    refine hQ0 hP M1 (fun j hj => ?_) ⟨?_, fun k => ?_⟩
    · rw [e1, mu_ne _ _ _ (fun z => hj (by rw [z])), ml_1]
    · rw [e1, mu_row, upd_at]
    · have e2 : M1.2 = (ml M i key).2 := by rw [e1, mu_2]
      rw [e2]
      constructor
      · rintro (h | h)
        · obtain ⟨j, h1, h2⟩ := (hK.2 k).mp h
          exact ⟨j, by omega, by rw [ml_2, if_neg (by omega)]; exact h2⟩
        · exact ⟨i, by omega, by rw [ml_2, if_pos rfl]; exact h.symm⟩
      · rintro ⟨j, h1, h2⟩
        rw [ml_2] at h2
        by_cases e : j = i
        · rw [if_pos e] at h2; exact Or.inr h2.symm
        · rw [if_neg e] at h2; exact Or.inl ((hK.2 k).mpr ⟨j, by omega, h2⟩)
  | succ d ih =>
    intro i hi hn
    rw [w_X4_note_38, hK.1, if_neg (by rw [nI_leI (by omega) (by omega)]; omega), nI_clamp (by omega), nI_1]
    refine ⟨vpT (by omega) (by omega), ?_⟩
    by_cases e : M.2 i = key
    · rw [if_pos (lg0.mpr e)]
      exact hQ1 ((hK.2 key).mpr ⟨i, by omega, e⟩)
    · rw [if_neg (fun q => e (lg0.mp q))]
      refine ih (i + 1) (by omega) (fun j hj => ?_)
      rcases Nat.lt_or_ge j i with q | q
      · exact hn j q
      · have : j = i := by omega
        subst this
        exact e
theorem c4_note {r1 : ix} {M : Mem} {m : Nat} {P : Int64 → Prop} (hm : m < 48) (hK : KI M m P) {Q : Mem → Prop} (hQ1 : P (ky4 (M.1 r1) 4) → Q M) (hQ0 : ¬ P (ky4 (M.1 r1) 4) → ∀ M1, (∀ i : ix, i.1 ≠ 26 → M1.1 i = M.1 i) → KI M1 (m + 1) (fun k => P k ∨ k = ky4 (M.1 r1) 4) → Q M1) : w_X4_note r1 4 Q M := by
  have step : ∀ d c, c + d = 4 → w_X4_note_5 r1 4 Q (d + 1) (ky4 (M.1 r1) c) (nI c) M := by
    intro d
    induction d with
    | zero =>
      intro c hc
      have : c = 4 := by omega
      subst this
      rw [w_X4_note_5, if_pos (by decide)]
      have h := c4_38 (r1 := r1) hm hK hQ1 hQ0 m 0 (by omega) (fun j hj => absurd hj (by omega))
      exact ⟨m + 1, h⟩
    | succ d ih =>
      intro c hc
      rw [w_X4_note_5, if_neg (by rw [nI_lel (by omega) (by omega)]; omega), nI_1]
      refine c8_at (by omega) (fun v hv => ?_)
      rw [hv c (by omega) rfl]
      intro x ex
      rw [ex]
      exact ih (c + 1) (by omega)
  exact ⟨5, step 4 0 rfl⟩
theorem look.cq {M0 M : Mem} {g : Nat → Int32} {n : Nat} {E : Nat → Nat} (l : look M0 M) (h : CQ M0 g n E) : CQ M g n E := h.kp (fun i h1 h2 => l i (by omega))
theorem look.rb {M0 M : Mem} {b m : Nat} {rr kn : Nat → Int32} (l : look M0 M) (h : RB M0 0 b rr kn m) : RB M 0 b rr kn m := h.kp (fun i hi _ => l i (Or.inl hi))
def mtc (g : Nat → Int32) (n : Nat) (E : Nat → Nat) (rr : Nat → Int32) (b r : Nat) : Prop := ev g n E (rwo rr b r) 0 = 1
theorem mtc_like {g : Nat → Int32} {n : Nat} {E : Nat → Nat} (hn : stk g n = some []) (h0 : 0 < n) (hs : SQ g n E) (hsg : ∀ i, i < n → ∃ m, 33 ≤ m ∧ m < 127 ∧ g i = nI m) {rr : Nat → Int32} {b r b2 r2 : Nat} (h : like rr b r b2 r2) (hm : mtc g n E rr b r) : mtc g n E rr b2 r2 := by
  unfold mtc at hm ⊢
  rw [← ev_row hn h0 hs hsg (R := rwo rr b r) (R2 := rwo rr b2 r2) (fun c hc => h c hc)]
  exact hm
theorem c8_isMatch {g : Nat → Int32} {n : Nat} {E : Nat → Nat} {M0 M : Mem} (hC : CQ M0 g n E) (l : look M0 M) {rr kn : Nat → Int32} {b r m : Nat} (hB : RB M0 0 b rr kn m) (hr : r < m) {Q : Int32 → Mem → Prop} (h1 : mtc g n E rr b r → ∀ M1, onl M M1 [19] → Q 1 M1) (h0 : ¬ mtc g n E rr b r → ∀ M1, onl M M1 [19] → Q 0 M1) : w_X8_isMatch (5, 0, b, r) 4 Q M := by
  refine c3_judge (l.cq hC) (by simp) (fun M1 f1 => ?_)
  have e : ev g n E (M.1 (5, 0, b, r)) 0 = ev g n E (rwo rr b r) 0 := ev_row hC.2.2.2.2.1 hC.2.1 hC.2.2.2.2.2.1 hC.2.2.2.2.2.2.1 (fun c hc => (l.rb hB).2.2.1 r c hr hc)
  rw [e]
  by_cases h : ev g n E (rwo rr b r) 0 = 1
  · rw [if_pos h]; exact h1 h M1 f1
  · rw [if_neg h]; exact h0 h M1 f1
theorem l19 {M M1 : Mem} (h : onl M M1 [19]) : look M M1 := onl.look h (by simp)
/-- how many matches -/
theorem c8_countMatches {g : Nat → Int32} {n : Nat} {E : Nat → Nat} {M0 : Mem} (hC : CQ M0 g n E) {rr kn : Nat → Int32} {mn : Nat → Nat} (hB : ∀ b, b < 6 → RB M0 0 b rr kn (mn b)) {Q : Int32 → Mem → Prop} (hQ : ∀ M1, look M0 M1 → Q (nI (cbN (mtc g n E rr) mn 6)) M1) : w_X8_countMatches Q M0 := by
  have inner : ∀ b, b < 6 → ∀ (B : Int32 → Int32 → Mem → Prop) (c0 : Nat), (∀ M1, look M0 M1 → B (nI (c0 + crN (mtc g n E rr) b (mn b))) (nI (b + 1)) M1) → ∀ m r M, r + m = mn b → look M0 M → w_X8_countMatches_23 Q B (m + 1) (nI (c0 + crN (mtc g n E rr) b r)) (nI b) b (nI r) M := by
    intro b hb B c0 hBB m
    have hm8 := (hB b hb).2.1
    induction m with
    | zero =>
      intro r M hr l
      have : r = mn b := by omega
      subst this
      rw [w_X8_countMatches_23, (l.rb (hB b hb)).1, if_pos (by rw [nI_leI (by omega) (by omega)]; omega), nI_1]
      exact hBB M l
    | succ m ih =>
      intro r M hr l
      rw [w_X8_countMatches_23, (l.rb (hB b hb)).1, if_neg (by rw [nI_leI (by omega) (by omega)]; omega), nI_clamp (by omega), nI_1, nI_1]
      refine ⟨vpT (by omega) (by omega), c8_isMatch hC l (hB b hb) (by omega) (fun h M1 f1 => ?_) (fun h M1 f1 => ?_)⟩
      · rw [if_neg (by decide)]
        have := ih (r + 1) M1 (by omega) (l.tr (l19 f1))
        rw [show crN (mtc g n E rr) b (r + 1) = crN (mtc g n E rr) b r + 1 from by show crN (mtc g n E rr) b r + one (mtc g n E rr b r) = _; rw [one_t h], ← Nat.add_assoc] at this
        exact this
      · rw [if_pos rfl]
        have := ih (r + 1) M1 (by omega) (l.tr (l19 f1))
        rw [show crN (mtc g n E rr) b (r + 1) = crN (mtc g n E rr) b r from by show crN (mtc g n E rr) b r + one (mtc g n E rr b r) = _; rw [one_f h, Nat.add_zero]] at this
        exact this
  have outer : ∀ m b M, b + m = 6 → look M0 M → w_X8_countMatches_4 Q (m + 1) (nI (cbN (mtc g n E rr) mn b)) (nI b) M := by
    intro m
    induction m with
    | zero =>
      intro b M hb l
      have : b = 6 := by omega
      subst this
      rw [w_X8_countMatches_4, if_pos (by decide)]
      exact hQ M l
    | succ m ih =>
      intro b M hb l
      rw [w_X8_countMatches_4, if_neg (by rw [nI_lel (by omega) (by omega)]; omega), nI_clamp (by omega)]
      have h := inner b (by omega) (fun x1 x2 M => w_X8_countMatches_4 Q (m + 1) x1 x2 M) (cbN (mtc g n E rr) mn b) (fun M1 l1 => ih (b + 1) M1 (by omega) l1) (mn b) 0 M (by omega) l
      exact ⟨vpT (by omega) (by omega), mn b + 1, h⟩
  exact ⟨7, outer 6 0 M0 rfl look.rf⟩
