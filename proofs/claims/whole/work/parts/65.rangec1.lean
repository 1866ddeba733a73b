/-! the class: ranges, the small methods -/
theorem i32_nle {a b : Int32} : ¬ a ≤ b ↔ b < a := Int32.not_le
theorem i32_nlt {a b : Int32} : ¬ a < b ↔ b ≤ a := Int32.not_lt
theorem i32_anti {a b : Int32} (h : a ≤ b) (h2 : b ≤ a) : a = b := by
  rw [i32_le] at h h2
  exact Int32.toInt_inj.mp (by omega)
theorem i32_lt_le {a b : Int32} (h : a < b) : a ≤ b := by
  rw [i32_lt] at h
  rw [i32_le]
  omega
theorem mn_lt (a b : Int32) : (if b < a then b else a) = mnO a b := by
  unfold mnO
  by_cases h : b < a
  · rw [if_pos h, if_pos (i32_lt_le h)]
  · rw [if_neg h]
    by_cases h2 : b ≤ a
    · rw [if_pos h2]; exact i32_anti (i32_nlt.mp h) h2
    · rw [if_neg h2]
theorem mx_lt (a b : Int32) : (if a < b then b else a) = mxO a b := by
  unfold mxO
  by_cases h : a < b
  · rw [if_pos h, if_pos (i32_lt_le h)]
  · rw [if_neg h]
    by_cases h2 : a ≤ b
    · rw [if_pos h2]; exact i32_anti h2 (i32_nlt.mp h)
    · rw [if_neg h2]
theorem smO_42 (x y : Int32) : smO 42 x y = cutL (x.toInt64 * y.toInt64) := by
  unfold smO
  rw [if_neg (by decide), if_neg (by decide)]
theorem smO_43 (x y : Int32) : smO 43 x y = cutL (x.toInt64 + y.toInt64) := by
  unfold smO
  rw [if_pos rfl]
theorem smO_45 (x y : Int32) : smO 45 x y = cutL (x.toInt64 - y.toInt64) := by
  unfold smO
  rw [if_neg (by decide), if_pos rfl]
theorem c8_isSum {s : Int32} {Q : Int32 → Mem → Prop} {M : Mem} (h1 : (s = 43 ∨ s = 45 ∨ s = 42) → Q 1 M) (h0 : ¬ (s = 43 ∨ s = 45 ∨ s = 42) → Q 0 M) : w_X8_isSum s Q M := by
  unfold w_X8_isSum
  by_cases e1 : s = 43
  · rw [if_pos e1]; exact h1 (Or.inl e1)
  rw [if_neg e1]
  by_cases e2 : s = 45
  · rw [if_pos e2]; exact h1 (Or.inr (Or.inl e2))
  rw [if_neg e2]
  by_cases e3 : s = 42
  · rw [if_pos e3]; exact h1 (Or.inr (Or.inr e3))
  rw [if_neg e3]
  exact h0 (fun h => h.elim e1 (fun h => h.elim e2 e3))
theorem c8_chanceOf {x : Int32} {Q : Int32 → Mem → Prop} {M : Mem} (hQ : Q (btO x) M) : w_X8_chanceOf x Q M := by
  unfold w_X8_chanceOf
  unfold btO at hQ
  by_cases a : x = 2
  · rw [if_pos a] at hQ ⊢; exact hQ
  rw [if_neg a] at hQ ⊢
  by_cases b : x = 1
  · rw [if_pos b] at hQ ⊢; exact hQ
  rw [if_neg b] at hQ ⊢
  exact hQ
/-- the bounds of a place, written -/
def sB (M : Mem) (q : Nat) (p : Int32 × Int32) : Mem := mu (mu M (22, 0, 0, 0) q p.1) (23, 0, 0, 0) q p.2
theorem c2_setBounds {q : Nat} (hq : q < 60) {a b : Int32} {Q : Mem → Prop} {M : Mem} (hQ : Q (sB M q (a, b))) : w_X2_setBounds (nI q) a b Q M := by
  unfold w_X2_setBounds
  rw [nI_clamp (by omega)]
  exact ⟨vpT (by omega) (by omega), vpT (by omega) (by omega), hQ⟩
theorem c2_leftOver {q j : Nat} (hq : q < 60) (hj : 1 ≤ j) (hj9 : j < 10) {l h d : Int32} (hd : d = nI j) {Q : Mem → Prop} {M : Mem} (hQ : Q (sB M q (lfO l h d))) : w_X2_leftOverBounds (nI q) l h d Q M := by
  have hd0 : ¬ d = 0 := by rw [hd]; exact nI_ne0 (by omega) (by omega)
  unfold w_X2_leftOverBounds
  rw [if_pos (by rw [hd, nI_lel (by omega) (by omega)]; omega)]
  unfold lfO at hQ
  have other : ¬ (l / d = h / d ∧ ¬ (l < 0 ∧ 0 < h)) → w_X2_leftOverBounds_52 (nI q) l h d Q M := by
    intro hn
    rw [if_neg hn] at hQ
    unfold w_X2_leftOverBounds_52
    have e1 : (if l < 1 - d then 1 - d else l) = (if l ≤ 1 - d then 1 - d else l) := mx_lt l (1 - d)
    have e2 : (if d - 1 < h then d - 1 else h) = (if d - 1 ≤ h then d - 1 else h) := mn_lt h (d - 1)
    by_cases a : l < 0
    · rw [if_pos a] at hQ ⊢
      intro x6 ex
      rw [e1] at ex
      by_cases b : 0 < h
      · rw [if_pos b] at hQ ⊢
        intro x7 ey
        rw [e2] at ey
        rw [ex, ey]
        exact c2_setBounds hq hQ
      · rw [if_neg b] at hQ ⊢
        rw [ex]
        exact c2_setBounds hq hQ
    · rw [if_neg a] at hQ ⊢
      by_cases b : 0 < h
      · rw [if_pos b] at hQ ⊢
        intro x7 ey
        rw [e2] at ey
        rw [ey]
        exact c2_setBounds hq hQ
      · rw [if_neg b] at hQ ⊢
        exact c2_setBounds hq hQ
  by_cases l0 : 0 ≤ l
  · rw [if_pos l0]
    refine ⟨hd0, hd0, ?_⟩
    by_cases e : l / d = h / d
    · rw [if_pos e, if_pos rfl]
      rw [if_pos ⟨e, fun z => (i32_nlt.mpr l0) z.1⟩] at hQ
      exact ⟨hd0, hd0, c2_setBounds hq hQ⟩
    · rw [if_neg e]
      exact other (fun z => e z.1)
  · rw [if_neg l0]
    by_cases h0 : h ≤ 0
    · rw [if_pos h0]
      refine ⟨hd0, hd0, ?_⟩
      by_cases e : l / d = h / d
      · rw [if_pos e, if_pos rfl]
        rw [if_pos ⟨e, fun z => (i32_nlt.mpr h0) z.2⟩] at hQ
        exact ⟨hd0, hd0, c2_setBounds hq hQ⟩
      · rw [if_neg e]
        exact other (fun z => e z.1)
    · rw [if_neg h0]
      refine ⟨hd0, hd0, ?_⟩
      have hn : ¬ (l / d = h / d ∧ ¬ (l < 0 ∧ 0 < h)) := fun z => z.2 ⟨i32_nle.mp l0, i32_nle.mp h0⟩
      by_cases e : l / d = h / d
      · rw [if_pos e, if_neg (by decide)]
        exact other hn
      · rw [if_neg e]
        exact other hn
theorem c2_byte {q : Nat} (hq : q < 60) {l h : Int32} {Q : Mem → Prop} {M : Mem} (hQ : Q (sB M q (bbO l h))) : w_X2_byteBounds (nI q) l h Q M := by
  unfold w_X2_byteBounds
  intro x ex y ey
  have ex : x = byO l := ex
  have ey : y = byO h := ey
  unfold bbO at hQ
  rw [ex, ey]
  by_cases a : (256 : Int32) ≤ h - l
  · rw [if_pos a] at hQ ⊢; exact c2_setBounds hq hQ
  rw [if_neg a] at hQ ⊢
  by_cases b : byO h < byO l
  · rw [if_pos b] at hQ ⊢; exact c2_setBounds hq hQ
  rw [if_neg b] at hQ ⊢
  exact c2_setBounds hq hQ
theorem c8_atp {r0 : ix} {p : Nat} (hp : p < 60) {a : Int32} (ha : a = nI p) {Q : Int32 → Mem → Prop} {M : Mem} (hQ : Q (M.1 r0 p) M) : w_X8_at r0 60 a Q M := c8_at (by omega) (fun v hv => by rw [hv p hp ha]; exact hQ)
theorem c2_product {q j : Nat} (hq : q + 1 < 60) (hj : j < 60) {a : Int32} (ha : a = nI j) {Q : Mem → Prop} {M : Mem} (hQ : Q (sB M q (prO (M.1 (22, 0, 0, 0) (q + 1)) (M.1 (23, 0, 0, 0) (q + 1)) (M.1 (22, 0, 0, 0) j) (M.1 (23, 0, 0, 0) j)))) : w_X2_productBounds (nI q) a Q M := by
  unfold w_X2_productBounds
  rw [nI_1]
  refine c8_atp hq rfl (c8_atp hq rfl (c8_atp hj ha (c8_sumOf (c8_atp hj ha (c8_sumOf (c8_atp hj ha (c8_sumOf (c8_atp hj ha (c8_sumOf ?_)))))))))
  intro x ex y ey
  rw [smO_42, smO_42, smO_42, smO_42, mn_lt, mn_lt, mn_lt] at ex
  rw [smO_42, smO_42, smO_42, smO_42, mx_lt, mx_lt, mx_lt] at ey
  rw [ex, ey]
  exact c2_setBounds (by omega) hQ
theorem c2_plus {q j : Nat} (hq : q + 1 < 60) (hj : j < 60) {a : Int32} (ha : a = nI j) {Q : Mem → Prop} {M : Mem} (hQ : Q (sB M q (cutL ((M.1 (22, 0, 0, 0) (q + 1)).toInt64 + (M.1 (22, 0, 0, 0) j).toInt64), cutL ((M.1 (23, 0, 0, 0) (q + 1)).toInt64 + (M.1 (23, 0, 0, 0) j).toInt64)))) : w_X2_sumBounds (nI q) 43 a Q M := by
  unfold w_X2_sumBounds
  rw [nI_1, if_pos rfl]
  refine c8_atp hj ha ?_
  rw [if_pos rfl]
  refine c8_atp hj ha (c8_atp hq rfl (c8_sumOf (c8_atp hq rfl (c8_sumOf (c2_setBounds (by omega) ?_)))))
  rw [smO_43, smO_43]
  exact hQ
theorem c2_minus {q j : Nat} (hq : q + 1 < 60) (hj : j < 60) {a : Int32} (ha : a = nI j) {Q : Mem → Prop} {M : Mem} (hQ : Q (sB M q (cutL ((M.1 (22, 0, 0, 0) (q + 1)).toInt64 - (M.1 (23, 0, 0, 0) j).toInt64), cutL ((M.1 (23, 0, 0, 0) (q + 1)).toInt64 - (M.1 (22, 0, 0, 0) j).toInt64)))) : w_X2_sumBounds (nI q) 45 a Q M := by
  unfold w_X2_sumBounds
  rw [nI_1, if_neg (by decide)]
  refine c8_atp hj ha ?_
  rw [if_neg (by decide)]
  refine c8_atp hj ha (c8_atp hq rfl (c8_sumOf (c8_atp hq rfl (c8_sumOf (c2_setBounds (by omega) ?_)))))
  rw [smO_45, smO_45]
  exact hQ
/-- the three numbers of a place -/
def trM (M : Mem) (j : Nat) : tri := (M.1 (21, 0, 0, 0) j, M.1 (22, 0, 0, 0) j, M.1 (23, 0, 0, 0) j)
theorem c2_158 {a1 a2 a3 x6 x8 x9 x11 t0 : Int32} {Q : Int32 → Mem → Prop} {M : Mem} (h6 : x6 = 0 ∨ x6 = 4) {u v : Int32} (hu : (x11 = 0 ∧ u = 0) ∨ (x11 = 1 ∧ u = 1)) (hv : (a1 = 60 ∧ v = if x8 < x9 then 0 else 2) ∨ (¬ a1 = 60 ∧ v = if t0 = 0 then 2 else 0)) (hQ : Q (x6 + (u + v)) M) : w_X2_comparedChances_158 a1 a2 a3 Q x6 x8 x9 x11 t0 M := by
  unfold w_X2_comparedChances_158
  have fin : ∀ z : Int32, (z = 0 ∧ v = 0) ∨ (z = 1 ∧ v = 2) → (if x11 = 0 then (if z = 0 then (Q ((x6 ||| (0 : Int32)) ||| (0 : Int32)) M) else (Q ((x6 ||| (0 : Int32)) ||| (2 : Int32)) M)) else (if z = 0 then (Q ((x6 ||| (1 : Int32)) ||| (0 : Int32)) M) else (Q ((x6 ||| (1 : Int32)) ||| (2 : Int32)) M))) := by
    intro z hz
    rcases hu with ⟨e1, e2⟩ | ⟨e1, e2⟩ <;> rcases hz with ⟨e3, e4⟩ | ⟨e3, e4⟩ <;> rcases h6 with e5 | e5 <;> rw [e1, e3] <;> rw [e2, e4, e5] at hQ <;> rw [e5] <;> exact hQ
  rcases hv with ⟨h1, h2⟩ | ⟨h1, h2⟩
  · rw [if_pos h1]
    by_cases c : x8 < x9
    · rw [if_pos c] at h2 ⊢
      exact fin 0 (Or.inl ⟨rfl, h2⟩)
    · rw [if_neg c] at h2 ⊢
      exact fin 1 (Or.inr ⟨rfl, h2⟩)
  · rw [if_neg h1]
    by_cases c : t0 = 0
    · rw [if_pos c] at h2 ⊢
      exact fin 1 (Or.inr ⟨rfl, h2⟩)
    · rw [if_neg c] at h2 ⊢
      exact fin 0 (Or.inl ⟨rfl, h2⟩)
theorem c2_130 {a1 a2 a3 x6 x7 x8 x9 x10 t0 : Int32} {Q : Int32 → Mem → Prop} {M : Mem} (h6 : x6 = 0 ∨ x6 = 4) {u v : Int32} (hu : (t0 = 0 ∧ u = 0) ∨ (t0 = 1 ∧ u = 1)) (hv : (a1 = 60 ∧ v = if x8 < x9 then 0 else 2) ∨ (¬ a1 = 60 ∧ v = if x7 = x8 ∧ x7 = x9 ∧ x7 = x10 then 0 else 2)) (hQ : Q (x6 + (u + v)) M) : w_X2_comparedChances_130 a1 a2 a3 Q x6 x7 x8 x9 x10 t0 M := by
  unfold w_X2_comparedChances_130
  have no : ¬ (x7 = x8 ∧ x7 = x9 ∧ x7 = x10) → w_X2_comparedChances_157 a1 a2 a3 Q x6 x8 x9 t0 M := by
    intro hn
    unfold w_X2_comparedChances_157
    refine c2_158 h6 hu ?_ hQ
    rcases hv with h | h
    · exact Or.inl h
    · rw [if_neg hn] at h
      exact Or.inr ⟨h.1, by rw [if_pos rfl]; exact h.2⟩
  by_cases a : x7 = x8
  · rw [if_pos a]
    by_cases b : x7 = x9
    · rw [if_pos b]
      by_cases c : x7 = x10
      · rw [if_pos c]
        refine c2_158 h6 hu ?_ hQ
        rcases hv with h | h
        · exact Or.inl h
        · rw [if_pos ⟨a, b, c⟩] at h
          exact Or.inr ⟨h.1, by rw [if_neg (by decide)]; exact h.2⟩
      · rw [if_neg c]; exact no (fun z => c z.2.2)
    · rw [if_neg b]; exact no (fun z => b z.2.1)
  · rw [if_neg a]; exact no (fun z => a z.1)
theorem c2_compared {s : Int32} {i j : Nat} (hi : i < 60) (hj : j < 60) {a3 : Int32} (ha : a3 = nI j) {Q : Int32 → Mem → Prop} {M : Mem} (hL : s = 60 → Q (cpL (trM M i) (trM M j)) M) (hE : ¬ s = 60 → Q (cpE (trM M i) (trM M j)) M) : w_X2_comparedChances s (nI i) a3 Q M := by
  unfold w_X2_comparedChances
  refine c8_atp hi rfl (c8_atp hj ha ?_)
  have fin : ∀ t0, t0 = cpT (M.1 (21, 0, 0, 0) i) (M.1 (21, 0, 0, 0) j) → w_X2_comparedChances_35 s (nI i) a3 Q (M.1 (21, 0, 0, 0) i) (M.1 (21, 0, 0, 0) j) t0 M := by
    intro t0 ht
    have h6 : t0 = 0 ∨ t0 = 4 := by rw [ht]; exact cpT_v _ _
    unfold w_X2_comparedChances_35
    unfold cpL at hL
    unfold cpE at hE
    have e1 : (trM M i).1 = M.1 (21, 0, 0, 0) i := rfl
    have e2 : (trM M j).1 = M.1 (21, 0, 0, 0) j := rfl
    rw [e1, e2, ← ht] at hL hE
    by_cases z : (M.1 (21, 0, 0, 0) i &&& M.1 (21, 0, 0, 0) j) &&& 1 = 0
    · rw [if_pos z] at hL hE ⊢
      by_cases s6 : s = 60
      · exact hL s6
      · exact hE s6
    rw [if_neg z] at hL hE ⊢
    refine c8_atp hi rfl (c8_atp hi rfl (c8_atp hj ha (c8_atp hj ha ?_)))
    by_cases s6 : s = 60
    · rw [if_pos s6]
      have hL := hL s6
      by_cases c : M.1 (23, 0, 0, 0) j ≤ M.1 (22, 0, 0, 0) i
      · rw [if_pos c]
        rw [if_pos (show (trM M j).2.2 ≤ (trM M i).2.1 from c)] at hL
        exact c2_130 h6 (Or.inl ⟨rfl, rfl⟩) (Or.inl ⟨s6, rfl⟩) hL
      · rw [if_neg c]
        rw [if_neg (show ¬ (trM M j).2.2 ≤ (trM M i).2.1 from c)] at hL
        exact c2_130 h6 (Or.inr ⟨rfl, rfl⟩) (Or.inl ⟨s6, rfl⟩) hL
    · rw [if_neg s6]
      have hE := hE s6
      by_cases c : M.1 (23, 0, 0, 0) j < M.1 (22, 0, 0, 0) i
      · rw [if_pos c]
        rw [if_pos (show (trM M j).2.2 < (trM M i).2.1 ∨ (trM M i).2.2 < (trM M j).2.1 from Or.inl c)] at hE
        unfold w_X2_comparedChances_129
        exact c2_130 h6 (Or.inl ⟨rfl, rfl⟩) (Or.inr ⟨s6, rfl⟩) hE
      rw [if_neg c]
      by_cases d : M.1 (23, 0, 0, 0) i < M.1 (22, 0, 0, 0) j
      · rw [if_pos d]
        rw [if_pos (show (trM M j).2.2 < (trM M i).2.1 ∨ (trM M i).2.2 < (trM M j).2.1 from Or.inr d)] at hE
        unfold w_X2_comparedChances_129
        exact c2_130 h6 (Or.inl ⟨rfl, rfl⟩) (Or.inr ⟨s6, rfl⟩) hE
      rw [if_neg d]
      rw [if_neg (show ¬ ((trM M j).2.2 < (trM M i).2.1 ∨ (trM M i).2.2 < (trM M j).2.1) from fun h => h.elim c d)] at hE
      exact c2_130 h6 (Or.inr ⟨rfl, rfl⟩) (Or.inr ⟨s6, rfl⟩) hE
  by_cases z : (M.1 (21, 0, 0, 0) i ||| M.1 (21, 0, 0, 0) j) &&& 2 = 0
  · rw [if_pos z]
    exact fin 0 (by unfold cpT; rw [if_pos z])
  · rw [if_neg z]
    exact fin 4 (by unfold cpT; rw [if_neg z])
def fJ (s : Int32) : Int32 → Int32 → Int32 := if s = 38 then boO else eiO
theorem c2_j14 {s a b : Int32} {Q : Int32 → Mem → Prop} {B : Int32 → Int32 → Mem → Prop} {M : Mem} {m : Nat} {acc x y : Int32} (hy : ¬ (2 : Int32) < y) (h : w_X2_joinedChances_14 s a b Q B m (jn1 (fJ s) a b x y acc) x (y + 1) M) : w_X2_joinedChances_14 s a b Q B (m + 1) acc x y M := by
  rw [w_X2_joinedChances_14, if_neg hy]
  refine c8_chanceOf ?_
  unfold jn1 at h
  by_cases p : a &&& btO x = 0
  · rw [if_pos p] at h ⊢; exact h
  rw [if_neg p] at h ⊢
  refine c8_chanceOf ?_
  by_cases q : b &&& btO y = 0
  · rw [if_pos q] at h ⊢; exact h
  rw [if_neg q] at h ⊢
  unfold fJ at h
  by_cases r : s = 38
  · rw [if_pos r] at h ⊢
    exact c8_both (c8_chanceOf (fun z ez => by rw [ez]; exact h))
  · rw [if_neg r] at h ⊢
    exact c8_either (c8_chanceOf (fun z ez => by rw [ez]; exact h))
theorem c2_j5 {s a b : Int32} {Q : Int32 → Mem → Prop} {M : Mem} {m : Nat} {acc x : Int32} (hx : ¬ (2 : Int32) < x) (h : w_X2_joinedChances_5 s a b Q m (jn3 (fJ s) a b x acc) (x + 1) M) : w_X2_joinedChances_5 s a b Q (m + 1) acc x M := by
  rw [w_X2_joinedChances_5, if_neg hx]
  refine ⟨4, c2_j14 (by decide) (c2_j14 (by decide) (c2_j14 (by decide) ?_))⟩
  rw [w_X2_joinedChances_14, if_pos (by decide)]
  exact h
theorem c2_joined {s a b : Int32} {Q : Int32 → Mem → Prop} {M : Mem} (hQ : Q (jnO (fJ s) a b) M) : w_X2_joinedChances s a b Q M := by
  refine ⟨4, c2_j5 (by decide) (c2_j5 (by decide) (c2_j5 (by decide) ?_))⟩
  rw [w_X2_joinedChances_5, if_pos (by decide)]
  exact hQ
theorem c2_n4 {a : Int32} {Q : Int32 → Mem → Prop} {M : Mem} {m : Nat} {acc x : Int32} (hx : ¬ (2 : Int32) < x) (h : w_X2_notChances_4 a Q m (nt1 a x acc) (x + 1) M) : w_X2_notChances_4 a Q (m + 1) acc x M := by
  rw [w_X2_notChances_4, if_neg hx]
  refine c8_chanceOf ?_
  unfold nt1 at h
  by_cases p : a &&& btO x = 0
  · rw [if_pos p] at h ⊢; exact h
  rw [if_neg p] at h ⊢
  exact c8_not (c8_chanceOf (fun z ez => by rw [ez]; exact h))
theorem c2_not {a : Int32} {Q : Int32 → Mem → Prop} {M : Mem} (hQ : Q (ntO a) M) : w_X2_notChances a Q M := by
  refine ⟨4, c2_n4 (by decide) (c2_n4 (by decide) (c2_n4 (by decide) ?_))⟩
  rw [w_X2_notChances_4, if_pos (by decide)]
  exact hQ
