/-! what a question is of a row: the function -/
def tx (R : Nat → Int32) (s : Int32) : Int32 := R (s - 97).toNatClampNeg
def cutL (v : Int64) : Int32 := if 0 ≤ lg_cmp v (-1000000 : Int64) then (if lg_cmp v (1000000 : Int64) ≤ 0 then v.toInt32 else 1000000) else -1000000
def byO (x : Int32) : Int32 := x.toInt8.toInt32
def boO (x y : Int32) : Int32 := if x = 0 then 0 else if y = 0 then 0 else if x = 2 then 2 else if y = 2 then 2 else 1
def eiO (x y : Int32) : Int32 := if x = 1 then 1 else if y = 1 then 1 else if x = 2 then 2 else if y = 2 then 2 else 0
def noO (x : Int32) : Int32 := if x = 2 then 2 else if x = 1 then 0 else 1
def colO (v : Int32) : Int32 := if v = 1000 then -2000000 else v
def misO (v : Int32) : Int32 := if v = 1000 then 1 else 0
def orN (x v : Int32) : Int32 := if x = -2000000 then -2000000 else v
def lsO (x y : Int32) : Int32 := if x = -2000000 then 2 else if y = -2000000 then 2 else if y ≤ x then 0 else 1
def lkO (x y : Int32) : Int32 := if x = -2000000 then 2 else if y = -2000000 then 2 else if x = y then 1 else 0
def num3 (g : Nat → Int32) (k : Nat) : Int32 := 100 * (g (k + 1) - 48) + 10 * (g (k + 2) - 48) + (g (k + 3) - 48)
def evc (g : Nat → Int32) (E : Nat → Nat) (R : Nat → Int32) (k : Nat) : Nat → Int32 → Int32 → Int32
  | 1, _, _ => colO (tx R (g k))
  | 2, _, _ => g k - 48
  | 3, _, _ => num3 g k
  | 4, x, _ => orN x (-x)
  | 5, x, y => orN x (orN y (cutL (x.toInt64 + y.toInt64)))
  | 6, x, y => orN x (orN y (cutL (x.toInt64 - y.toInt64)))
  | 7, x, y => orN x (orN y (cutL (x.toInt64 * y.toInt64)))
  | 8, x, _ => orN x (x - x / (g (E (k + 1)) - 48) * (g (E (k + 1)) - 48))
  | 9, x, _ => orN x (byO x)
  | 10, x, y => lsO x y
  | 11, x, y => lkO x y
  | 12, x, y => boO x y
  | 13, x, y => eiO x y
  | 14, x, _ => noO x
  | 15, _, _ => misO (tx R (g (k + 1)))
  | _, _, _ => 0
theorem evc_c {g : Nat → Int32} {E : Nat → Nat} {R R2 : Nat → Int32} {k c : Nat} {x x2 y y2 : Int32} (h1 : 1 ≤ c) (h15 : c ≤ 15) (hx : 1 ≤ innr c → x = x2) (hy : innr c = 2 → y = y2) (ha : c = 1 → tx R (g k) = tx R2 (g k)) (hb : c = 15 → tx R (g (k + 1)) = tx R2 (g (k + 1))) : evc g E R k c x y = evc g E R2 k c x2 y2 := by
  rcases c15 h1 h15 with h | h | h | h | h | h | h | h | h | h | h | h | h | h | h <;> subst h
  · show colO (tx R (g k)) = colO (tx R2 (g k)); rw [ha rfl]
  · show g k - 48 = g k - 48; rfl
  · show num3 g k = num3 g k; rfl
  · show orN x (-x) = orN x2 (-x2); rw [hx (by decide)]
  · show orN x (orN y (cutL (x.toInt64 + y.toInt64))) = orN x2 (orN y2 (cutL (x2.toInt64 + y2.toInt64))); rw [hx (by decide), hy (by decide)]
  · show orN x (orN y (cutL (x.toInt64 - y.toInt64))) = orN x2 (orN y2 (cutL (x2.toInt64 - y2.toInt64))); rw [hx (by decide), hy (by decide)]
  · show orN x (orN y (cutL (x.toInt64 * y.toInt64))) = orN x2 (orN y2 (cutL (x2.toInt64 * y2.toInt64))); rw [hx (by decide), hy (by decide)]
  · show orN x (x - x / (g (E (k + 1)) - 48) * (g (E (k + 1)) - 48)) = orN x2 (x2 - x2 / (g (E (k + 1)) - 48) * (g (E (k + 1)) - 48)); rw [hx (by decide)]
  · show orN x (byO x) = orN x2 (byO x2); rw [hx (by decide)]
  · show lsO x y = lsO x2 y2; rw [hx (by decide), hy (by decide)]
  · show lkO x y = lkO x2 y2; rw [hx (by decide), hy (by decide)]
  · show boO x y = boO x2 y2; rw [hx (by decide), hy (by decide)]
  · show eiO x y = eiO x2 y2; rw [hx (by decide), hy (by decide)]
  · show noO x = noO x2; rw [hx (by decide)]
  · show misO (tx R (g (k + 1))) = misO (tx R2 (g (k + 1))); rw [hb rfl]
abbrev t012 (v : Int32) : Prop := v = 0 ∨ v = 1 ∨ v = 2
theorem evc_t {g : Nat → Int32} {E : Nat → Nat} {R : Nat → Int32} {k c : Nat} {x y : Int32} (h1 : 10 ≤ c) (h15 : c ≤ 15) : t012 (evc g E R k c x y) := by
  have : c = 10 ∨ c = 11 ∨ c = 12 ∨ c = 13 ∨ c = 14 ∨ c = 15 := by omega
  unfold t012
  rcases this with h | h | h | h | h | h <;> subst h
  · show lsO x y = 0 ∨ lsO x y = 1 ∨ lsO x y = 2
    unfold lsO
    repeat' split
    all_goals simp
  · show lkO x y = 0 ∨ lkO x y = 1 ∨ lkO x y = 2
    unfold lkO
    repeat' split
    all_goals simp
  · show boO x y = 0 ∨ boO x y = 1 ∨ boO x y = 2
    unfold boO
    repeat' split
    all_goals simp
  · show eiO x y = 0 ∨ eiO x y = 1 ∨ eiO x y = 2
    unfold eiO
    repeat' split
    all_goals simp
  · show noO x = 0 ∨ noO x = 1 ∨ noO x = 2
    unfold noO
    repeat' split
    all_goals simp
  · show misO (tx R (g (k + 1))) = 0 ∨ misO (tx R (g (k + 1))) = 1 ∨ misO (tx R (g (k + 1))) = 2
    unfold misO
    repeat' split
    all_goals simp
def evF (g : Nat → Int32) (E : Nat → Nat) (R : Nat → Int32) : Nat → Nat → Int32
  | 0, _ => 0
  | f + 1, k => evc g E R k (kd g k) (evF g E R f (k + 1)) (evF g E R f (E (k + 1)))
theorem evF_s {g : Nat → Int32} {n : Nat} {E : Nat → Nat} {R : Nat → Int32} (hn : stk g n = some []) (hs : SQ g n E) : ∀ f k, n ≤ f + k → k < n → kd g k ≠ 0 → evF g E R (f + 1) k = evF g E R f k
  | 0, k, h, hk, _ => by omega
  | f + 1, k, h, hk, hz => by
    obtain ⟨s1, s2, -⟩ := sh hn hs hk rfl hz
    show evc g E R k (kd g k) (evF g E R (f + 1) (k + 1)) (evF g E R (f + 1) (E (k + 1))) = evc g E R k (kd g k) (evF g E R f (k + 1)) (evF g E R f (E (k + 1)))
    refine evc_c (by omega) (kd_le g k) (fun q => ?_) (fun q => ?_) (fun _ => rfl) (fun _ => rfl)
    · obtain ⟨a, b, -⟩ := s1 q
      exact evF_s hn hs f (k + 1) (by omega) a b
    · obtain ⟨a, b, d, -⟩ := s2 q
      exact evF_s hn hs f (E (k + 1)) (by omega) b d
/-- what each place of the question is of a row R -/
def ev (g : Nat → Int32) (n : Nat) (E : Nat → Nat) (R : Nat → Int32) (k : Nat) : Int32 := evF g E R n k
theorem ev_eq {g : Nat → Int32} {n : Nat} {E : Nat → Nat} {R : Nat → Int32} (hn : stk g n = some []) (hs : SQ g n E) {k : Nat} (hk : k < n) (hz : kd g k ≠ 0) : ev g n E R k = evc g E R k (kd g k) (ev g n E R (k + 1)) (ev g n E R (E (k + 1))) := (evF_s hn hs n k (by omega) hk hz).symm
theorem evF_R {g : Nat → Int32} {n : Nat} {E : Nat → Nat} {R R2 : Nat → Int32} (hn : stk g n = some []) (hs : SQ g n E) (hl : ∀ k, k < n → isL (g k) → tx R (g k) = tx R2 (g k)) : ∀ f k, k < n → kd g k ≠ 0 → evF g E R f k = evF g E R2 f k
  | 0, _, _, _ => rfl
  | f + 1, k, hk, hz => by
    obtain ⟨s1, s2, -, -, -, s6⟩ := sh hn hs hk rfl hz
    refine evc_c (by omega) (kd_le g k) (fun q => ?_) (fun q => ?_) (fun q => hl k hk ?_) (fun q => hl (k + 1) (s6 q).1 (s6 q).2)
    · obtain ⟨a, b, -⟩ := s1 q
      exact evF_R hn hs hl f (k + 1) a b
    · obtain ⟨a, b, d, -⟩ := s2 q
      exact evF_R hn hs hl f (E (k + 1)) b d
    · unfold kd knd at q
      have : tmK (g k) = 1 → isL (g k) := fun h => by
        unfold tmK at h
        repeat' split at h
        all_goals first | assumption | omega
      have := trK_r (g k)
      repeat' split at q
      all_goals first | omega | (exact ‹tmK (g k) = 1 → isL (g k)› q)
theorem ev_R {g : Nat → Int32} {n : Nat} {E : Nat → Nat} {R R2 : Nat → Int32} (hn : stk g n = some []) (hs : SQ g n E) (hl : ∀ k, k < n → isL (g k) → tx R (g k) = tx R2 (g k)) {k : Nat} (hk : k < n) (hz : kd g k ≠ 0) : ev g n E R k = ev g n E R2 k := evF_R hn hs hl n k hk hz
theorem kd_hi {g : Nat → Int32} {k : Nat} (hz : kd g k ≠ 0) : (rol g k = 1 ∧ 10 ≤ kd g k) ∨ (rol g k = 2 ∧ kd g k ≤ 9) := by
  unfold kd at hz ⊢
  split at hz
  · rename_i h
    rw [if_pos h]
    rcases h with h | h
    · rw [h] at hz ⊢
      have := trK_r (g k)
      have hz : trK (g k) ≠ 0 := hz
      exact Or.inl ⟨rfl, by show 10 ≤ trK (g k); omega⟩
    · rw [h]
      exact Or.inr ⟨rfl, tmK_r (g k)⟩
  · exact absurd rfl hz
theorem ev_t {g : Nat → Int32} {n : Nat} {E : Nat → Nat} {R : Nat → Int32} (hn : stk g n = some []) (hs : SQ g n E) {k : Nat} (hk : k < n) (hz : kd g k ≠ 0) (hr : rol g k = 1) : t012 (ev g n E R k) := by
  rw [ev_eq hn hs hk hz]
  rcases kd_hi hz with h | h
  · exact evc_t h.2 (kd_le g k)
  · omega
def sgO (c : Nat) : Int32 := if c = 3 then 35 else if c = 4 then 126 else if c = 5 then 43 else if c = 6 then 45 else if c = 7 then 42 else if c = 8 then 37 else if c = 9 then 121 else if c = 10 then 60 else if c = 11 then 61 else if c = 12 then 38 else if c = 13 then 124 else if c = 14 then 33 else 109
theorem trK_s {s : Int32} {c : Nat} (h : trK s = c) (h0 : c ≠ 0) : s = sgO c := by
  unfold trK at h
  repeat' split at h
  all_goals first | omega | (subst h; assumption)
theorem tmK_s {s : Int32} {c : Nat} (h : tmK s = c) (h0 : c ≠ 0) : (c = 1 ∧ isL s) ∨ (c = 2 ∧ isD s ∧ ¬ isL s) ∨ (3 ≤ c ∧ s = sgO c) := by
  unfold tmK at h
  split at h
  · exact Or.inl ⟨h.symm, by assumption⟩
  split at h
  · exact Or.inr (Or.inl ⟨h.symm, by assumption, by assumption⟩)
  refine Or.inr (Or.inr ?_)
  repeat' split at h
  all_goals first | omega | (subst h; exact ⟨by omega, by assumption⟩)
theorem kd_s {g : Nat → Int32} {k c : Nat} (h : kd g k = c) (h0 : c ≠ 0) : (c = 1 ∧ isL (g k)) ∨ (c = 2 ∧ isD (g k) ∧ ¬ isL (g k)) ∨ (3 ≤ c ∧ g k = sgO c) := by
  have hz := h
  unfold kd at h
  split at h
  · rename_i hr
    rcases hr with hr | hr
    · rw [hr] at h
      have h : trK (g k) = c := h
      have := trK_r (g k)
      exact Or.inr (Or.inr ⟨by omega, trK_s h h0⟩)
    · rw [hr] at h
      exact tmK_s h h0
  · omega
