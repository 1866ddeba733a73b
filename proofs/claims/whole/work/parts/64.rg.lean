/-! what a question may be of a block: the function -/
def kC (ms rows : Int32) : Int32 := if ms ≤ 0 then (if rows ≤ ms then 0 else 1) else (if rows ≤ ms then 2 else 3)
def mC (ms rows : Int32) : Int32 := if ms ≤ 0 then (if rows ≤ ms then 0 else 2) else (if rows ≤ ms then 1 else 3)
def andK (a b : Int32) : Int32 := (a &&& b &&& 1) ||| ((a ||| b) &&& 2)
def ndO (k : Int32) (p : Int32 × Int32) : Int32 × Int32 := if k &&& 1 = 0 then (-2000000, -2000000) else p
def mnO (a b : Int32) : Int32 := if b ≤ a then b else a
def mxO (a b : Int32) : Int32 := if a ≤ b then b else a
def prO (l h l2 h2 : Int32) : Int32 × Int32 := (mnO (mnO (cutL (l.toInt64 * l2.toInt64)) (cutL (l.toInt64 * h2.toInt64))) (mnO (cutL (h.toInt64 * l2.toInt64)) (cutL (h.toInt64 * h2.toInt64))), mxO (mxO (cutL (l.toInt64 * l2.toInt64)) (cutL (l.toInt64 * h2.toInt64))) (mxO (cutL (h.toInt64 * l2.toInt64)) (cutL (h.toInt64 * h2.toInt64))))
def lfO (l h d : Int32) : Int32 × Int32 := if l / d = h / d ∧ ¬ (l < 0 ∧ 0 < h) then (l - l / d * d, h - h / d * d) else (if l < 0 then (if l ≤ 1 - d then 1 - d else l) else 0, if 0 < h then (if d - 1 ≤ h then d - 1 else h) else 0)
def bbO (l h : Int32) : Int32 × Int32 := if (256 : Int32) ≤ h - l then (-128, 127) else if byO h < byO l then (-128, 127) else (byO l, byO h)
abbrev tri : Type := Int32 × Int32 × Int32
def cpT (a b : Int32) : Int32 := if (a ||| b) &&& 2 = 0 then 0 else 4
def cpL (x y : tri) : Int32 := if (x.1 &&& y.1) &&& 1 = 0 then cpT x.1 y.1 else cpT x.1 y.1 + ((if y.2.2 ≤ x.2.1 then 0 else 1) + (if x.2.2 < y.2.1 then 0 else 2))
def cpE (x y : tri) : Int32 := if (x.1 &&& y.1) &&& 1 = 0 then cpT x.1 y.1 else cpT x.1 y.1 + ((if y.2.2 < x.2.1 ∨ x.2.2 < y.2.1 then 0 else 1) + (if x.2.1 = x.2.2 ∧ x.2.1 = y.2.1 ∧ x.2.1 = y.2.2 then 0 else 2))
def btO (x : Int32) : Int32 := if x = 2 then 4 else if x = 1 then 1 else 2
def jn1 (f : Int32 → Int32 → Int32) (a b x y acc : Int32) : Int32 := if a &&& btO x = 0 then acc else if b &&& btO y = 0 then acc else acc ||| btO (f x y)
def jn3 (f : Int32 → Int32 → Int32) (a b x acc : Int32) : Int32 := jn1 f a b x 2 (jn1 f a b x 1 (jn1 f a b x 0 acc))
def jnO (f : Int32 → Int32 → Int32) (a b : Int32) : Int32 := jn3 f a b 2 (jn3 f a b 1 (jn3 f a b 0 0))
def nt1 (a x acc : Int32) : Int32 := if a &&& btO x = 0 then acc else acc ||| btO (noO x)
def ntO (a : Int32) : Int32 := nt1 a 2 (nt1 a 1 (nt1 a 0 0))
/-- the columns of a block: missing, least, greatest; its rows -/
abbrev bcx : Type := (Nat → tri) × Int32
def cxT (S : bcx) (s : Int32) : tri := S.1 (s - 97).toNatClampNeg
def rgc (g : Nat → Int32) (E : Nat → Nat) (S : bcx) (k : Nat) : Nat → tri → tri → tri
  | 1, _, _ => (kC (cxT S (g k)).1 S.2, ndO (kC (cxT S (g k)).1 S.2) (cxT S (g k)).2)
  | 2, _, _ => (1, g k - 48, g k - 48)
  | 3, _, _ => (1, num3 g k, num3 g k)
  | 4, x, _ => (x.1, ndO x.1 (-x.2.2, -x.2.1))
  | 5, x, y => (andK x.1 y.1, ndO (andK x.1 y.1) (cutL (x.2.1.toInt64 + y.2.1.toInt64), cutL (x.2.2.toInt64 + y.2.2.toInt64)))
  | 6, x, y => (andK x.1 y.1, ndO (andK x.1 y.1) (cutL (x.2.1.toInt64 - y.2.2.toInt64), cutL (x.2.2.toInt64 - y.2.1.toInt64)))
  | 7, x, y => (andK x.1 y.1, ndO (andK x.1 y.1) (prO x.2.1 x.2.2 y.2.1 y.2.2))
  | 8, x, _ => (x.1, ndO x.1 (lfO x.2.1 x.2.2 (g (E (k + 1)) - 48)))
  | 9, x, _ => (x.1, ndO x.1 (bbO x.2.1 x.2.2))
  | 10, x, y => (cpL x y, 0, 0)
  | 11, x, y => (cpE x y, 0, 0)
  | 12, x, y => (jnO boO x.1 y.1, 0, 0)
  | 13, x, y => (jnO eiO x.1 y.1, 0, 0)
  | 14, x, _ => (ntO x.1, 0, 0)
  | 15, _, _ => (mC (cxT S (g (k + 1))).1 S.2, 0, 0)
  | _, _, _ => (0, 0, 0)
theorem rgc_c {g : Nat → Int32} {E : Nat → Nat} {S : bcx} {k c : Nat} {x x2 y y2 : tri} (h1 : 1 ≤ c) (h15 : c ≤ 15) (hx : 1 ≤ innr c → x = x2) (hy : innr c = 2 → y = y2) : rgc g E S k c x y = rgc g E S k c x2 y2 := by
  rcases c15 h1 h15 with h | h | h | h | h | h | h | h | h | h | h | h | h | h | h <;> subst h
  · show (kC (cxT S (g k)).1 S.2, ndO (kC (cxT S (g k)).1 S.2) (cxT S (g k)).2) = (kC (cxT S (g k)).1 S.2, ndO (kC (cxT S (g k)).1 S.2) (cxT S (g k)).2); rfl
  · show ((1, g k - 48, g k - 48) : tri) = (1, g k - 48, g k - 48); rfl
  · show ((1, num3 g k, num3 g k) : tri) = (1, num3 g k, num3 g k); rfl
  · show (x.1, ndO x.1 (-x.2.2, -x.2.1)) = (x2.1, ndO x2.1 (-x2.2.2, -x2.2.1)); rw [hx (by decide)]
  · rw [hx (by decide), hy (by decide)]
  · rw [hx (by decide), hy (by decide)]
  · rw [hx (by decide), hy (by decide)]
  · show (x.1, ndO x.1 (lfO x.2.1 x.2.2 (g (E (k + 1)) - 48))) = (x2.1, ndO x2.1 (lfO x2.2.1 x2.2.2 (g (E (k + 1)) - 48))); rw [hx (by decide)]
  · show (x.1, ndO x.1 (bbO x.2.1 x.2.2)) = (x2.1, ndO x2.1 (bbO x2.2.1 x2.2.2)); rw [hx (by decide)]
  · rw [hx (by decide), hy (by decide)]
  · rw [hx (by decide), hy (by decide)]
  · rw [hx (by decide), hy (by decide)]
  · rw [hx (by decide), hy (by decide)]
  · show ((ntO x.1, 0, 0) : tri) = (ntO x2.1, 0, 0); rw [hx (by decide)]
  · show ((mC (cxT S (g (k + 1))).1 S.2, 0, 0) : tri) = (mC (cxT S (g (k + 1))).1 S.2, 0, 0); rfl
def rgF (g : Nat → Int32) (E : Nat → Nat) (S : bcx) : Nat → Nat → tri
  | 0, _ => (0, 0, 0)
  | f + 1, k => rgc g E S k (kd g k) (rgF g E S f (k + 1)) (rgF g E S f (E (k + 1)))
theorem rgF_s {g : Nat → Int32} {n : Nat} {E : Nat → Nat} {S : bcx} (hn : stk g n = some []) (hs : SQ g n E) : ∀ f k, n ≤ f + k → k < n → kd g k ≠ 0 → rgF g E S (f + 1) k = rgF g E S f k
  | 0, k, h, hk, _ => by omega
  | f + 1, k, h, hk, hz => by
    obtain ⟨s1, s2, -⟩ := sh hn hs hk rfl hz
    show rgc g E S k (kd g k) (rgF g E S (f + 1) (k + 1)) (rgF g E S (f + 1) (E (k + 1))) = rgc g E S k (kd g k) (rgF g E S f (k + 1)) (rgF g E S f (E (k + 1)))
    refine rgc_c (by omega) (kd_le g k) (fun q => ?_) (fun q => ?_)
    · obtain ⟨a, b, -⟩ := s1 q
      exact rgF_s hn hs f (k + 1) (by omega) a b
    · obtain ⟨a, b, d, -⟩ := s2 q
      exact rgF_s hn hs f (E (k + 1)) (by omega) b d
def rg (g : Nat → Int32) (n : Nat) (E : Nat → Nat) (S : bcx) (k : Nat) : tri := rgF g E S n k
theorem rg_eq {g : Nat → Int32} {n : Nat} {E : Nat → Nat} {S : bcx} (hn : stk g n = some []) (hs : SQ g n E) {k : Nat} (hk : k < n) (hz : kd g k ≠ 0) : rg g n E S k = rgc g E S k (kd g k) (rg g n E S (k + 1)) (rg g n E S (E (k + 1))) := (rgF_s hn hs n k (by omega) hk hz).symm
abbrev t03 (v : Int32) : Prop := v = 0 ∨ v = 1 ∨ v = 2 ∨ v = 3
abbrev t07 (v : Int32) : Prop := v = 0 ∨ v = 1 ∨ v = 2 ∨ v = 3 ∨ v = 4 ∨ v = 5 ∨ v = 6 ∨ v = 7
theorem kC_3 (a b : Int32) : t03 (kC a b) := by
  unfold kC t03
  repeat' split
  all_goals simp
theorem mC_7 (a b : Int32) : t07 (mC a b) := by
  unfold mC t07
  repeat' split
  all_goals simp
theorem andK_3 {a b : Int32} (ha : t03 a) (hb : t03 b) : t03 (andK a b) := by
  rcases ha with h | h | h | h <;> subst h <;> rcases hb with h | h | h | h <;> subst h <;> decide
theorem or7 {a : Int32} (ha : t07 a) (x : Int32) : t07 (a ||| btO x) := by
  unfold btO
  rcases ha with h | h | h | h | h | h | h | h <;> subst h <;> repeat' split
  all_goals decide
theorem jn1_7 {f : Int32 → Int32 → Int32} {a b x y acc : Int32} (h : t07 acc) : t07 (jn1 f a b x y acc) := by
  unfold jn1
  repeat' split
  · exact h
  · exact h
  · exact or7 h _
theorem jnO_7 (f : Int32 → Int32 → Int32) (a b : Int32) : t07 (jnO f a b) := by
  unfold jnO jn3
  exact jn1_7 (jn1_7 (jn1_7 (jn1_7 (jn1_7 (jn1_7 (jn1_7 (jn1_7 (jn1_7 (Or.inl rfl)))))))))
theorem nt1_7 {a x acc : Int32} (h : t07 acc) : t07 (nt1 a x acc) := by
  unfold nt1
  split
  · exact h
  · exact or7 h _
theorem ntO_7 (a : Int32) : t07 (ntO a) := nt1_7 (nt1_7 (nt1_7 (Or.inl rfl)))
theorem cpT_v (a b : Int32) : cpT a b = 0 ∨ cpT a b = 4 := by
  unfold cpT
  split
  · exact Or.inl rfl
  · exact Or.inr rfl
theorem cpL_7 (x y : tri) : t07 (cpL x y) := by
  unfold cpL
  rcases cpT_v x.1 y.1 with h | h <;> rw [h] <;> repeat' split
  all_goals decide
theorem cpE_7 (x y : tri) : t07 (cpE x y) := by
  unfold cpE
  rcases cpT_v x.1 y.1 with h | h <;> rw [h] <;> repeat' split
  all_goals decide
theorem rg_ranges {g : Nat → Int32} {n : Nat} {E : Nat → Nat} {S : bcx} (hn : stk g n = some []) (hs : SQ g n E) : ∀ d k, n ≤ k + d → k < n → kd g k ≠ 0 → (kd g k ≤ 9 → t03 (rg g n E S k).1) ∧ (10 ≤ kd g k → t07 (rg g n E S k).1)
  | 0, k, h, hk, _ => by omega
  | d + 1, k, h, hk, hz => by
    obtain ⟨s1, s2, -⟩ := sh hn hs hk rfl hz
    have hx : 4 ≤ kd g k → kd g k ≤ 9 → t03 (rg g n E S (k + 1)).1 := fun h4 h9 => by
      have i1 : 1 ≤ innr (kd g k) := by
        have : kd g k = 4 ∨ kd g k = 5 ∨ kd g k = 6 ∨ kd g k = 7 ∨ kd g k = 8 ∨ kd g k = 9 := by omega
        rcases this with h | h | h | h | h | h <;> rw [h] <;> decide
      obtain ⟨a, b, e⟩ := s1 i1
      refine (rg_ranges hn hs d (k + 1) (by omega) a b).1 ?_
      rcases kd_hi b with q | q
      · rw [q.1] at e
        unfold ptw at e
        rw [if_neg (by omega)] at e
        omega
      · exact q.2
    have hy : 5 ≤ kd g k → kd g k ≤ 7 → t03 (rg g n E S (E (k + 1))).1 := fun h4 h9 => by
      have i1 : innr (kd g k) = 2 := by
        have : kd g k = 5 ∨ kd g k = 6 ∨ kd g k = 7 := by omega
        rcases this with h | h | h <;> rw [h] <;> decide
      obtain ⟨a, b, b2, e⟩ := s2 i1
      refine (rg_ranges hn hs d (E (k + 1)) (by omega) b b2).1 ?_
      rcases kd_hi b2 with q | q
      · rw [q.1] at e
        unfold ptw at e
        rw [if_neg (by omega)] at e
        omega
      · exact q.2
    rw [rg_eq hn hs hk hz]
    obtain ⟨c, hc⟩ : ∃ c, kd g k = c := ⟨_, rfl⟩
    have hle := kd_le g k
    rw [hc] at hx hy hle hz ⊢
    rcases c15 (c := c) (by omega) hle with h | h | h | h | h | h | h | h | h | h | h | h | h | h | h <;> subst h <;> refine ⟨fun z => ?_, fun z => ?_⟩ <;> first | (exfalso; omega) | skip
    · exact kC_3 _ _
    · exact Or.inr (Or.inl rfl)
    · exact Or.inr (Or.inl rfl)
    · exact hx (by omega) (by omega)
    · exact andK_3 (hx (by omega) (by omega)) (hy (by omega) (by omega))
    · exact andK_3 (hx (by omega) (by omega)) (hy (by omega) (by omega))
    · exact andK_3 (hx (by omega) (by omega)) (hy (by omega) (by omega))
    · exact hx (by omega) (by omega)
    · exact hx (by omega) (by omega)
    · exact cpL_7 _ _
    · exact cpE_7 _ _
    · exact jnO_7 _ _ _
    · exact jnO_7 _ _ _
    · exact ntO_7 _
    · exact mC_7 _ _
theorem rg_3 {g : Nat → Int32} {n : Nat} {E : Nat → Nat} {S : bcx} (hn : stk g n = some []) (hs : SQ g n E) {k : Nat} (hk : k < n) (hz : kd g k ≠ 0) (hr : rol g k = 2) : t03 (rg g n E S k).1 := by
  refine (rg_ranges hn hs n k (by omega) hk hz).1 ?_
  rcases kd_hi hz with h | h
  · omega
  · exact h.2
theorem rg_7 {g : Nat → Int32} {n : Nat} {E : Nat → Nat} {S : bcx} (hn : stk g n = some []) (hs : SQ g n E) {k : Nat} (hk : k < n) (hz : kd g k ≠ 0) (hr : rol g k = 1) : t07 (rg g n E S k).1 := by
  refine (rg_ranges hn hs n k (by omega) hk hz).2 ?_
  rcases kd_hi hz with h | h
  · exact h.2
  · omega
