/-! the reference: ranges -/
def bcR (M : Mem) (b : Nat) : bcx := (fun j => if j < 4 then (M.1 (32, 0, 0, 0) (12 * (4 * b + j) + 2), M.1 (32, 0, 0, 0) (12 * (4 * b + j)), M.1 (32, 0, 0, 0) (12 * (4 * b + j) + 1)) else (0, 0, 0), M.1 (31, 0, 0, 0) b)
theorem c9_bit {x : Int32} (hx : t012 x) {Q : Int32 → Mem → Prop} {M : Mem} (hQ : Q (btO x) M) : w_X9_bit x Q M := by
  unfold w_X9_bit
  rcases hx with h | h | h <;> subst h
  · rw [if_neg (by decide), if_pos rfl]; exact hQ
  · rw [if_pos rfl]; exact hQ
  · rw [if_neg (by decide), if_neg (by decide)]; exact hQ
def fR (x3 : Int32) : Int32 → Int32 → Int32 := if x3 = 14 then fun x _ => noO x else if x3 = 12 then boO else eiO
theorem c9_347 {a1 a2 x3 : Int32} {i j : Nat} (hi : i < 60) (hj : j < 60) {Q : Int32 → Mem → Prop} {B : Int32 → Int32 → Int32 → Int32 → Int32 → Mem → Prop} {M : Mem} {m : Nat} {acc x y : Int32} (hx : t012 x) (hy : t012 y) (h : w_X9_mayAt_347 a1 a2 Q B m x3 (nI i) (nI j) (jn1 (fR x3) (M.1 (42, 0, 0, 0) i) (M.1 (42, 0, 0, 0) j) x y acc) x (y + 1) M) : w_X9_mayAt_347 a1 a2 Q B (m + 1) x3 (nI i) (nI j) acc x y M := by
  have h3 : ¬ (3 : Int32) ≤ y := by rcases hy with h | h | h <;> subst h <;> decide
  rw [w_X9_mayAt_347, if_neg h3, nI_clamp (n := i) (by omega)]
  refine ⟨vpT (by omega) (by omega), c9_bit hx ?_⟩
  unfold jn1 at h
  by_cases p : M.1 (42, 0, 0, 0) i &&& btO x = 0
  · rw [if_pos p] at h ⊢; exact h
  rw [if_neg p] at h ⊢
  rw [nI_clamp (n := j) (by omega)]
  refine ⟨vpT (by omega) (by omega), c9_bit hy ?_⟩
  by_cases q : M.1 (42, 0, 0, 0) j &&& btO y = 0
  · rw [if_pos q] at h ⊢; exact h
  rw [if_neg q] at h ⊢
  unfold fR at h
  by_cases r : x3 = 14
  · rw [if_pos r] at h ⊢
    exact c9_not hx (c9_bit noO_t (fun z ez => by rw [ez]; exact h))
  rw [if_neg r] at h ⊢
  by_cases r2 : x3 = 12
  · rw [if_pos r2] at h ⊢
    exact c9_both (c9_bit boO_t (fun z ez => by rw [ez]; exact h))
  · rw [if_neg r2] at h ⊢
    exact c9_either hx hy (c9_bit eiO_t (fun z ez => by rw [ez]; exact h))
theorem c9_338 {a1 a2 x3 : Int32} {i j : Nat} (hi : i < 60) (hj : j < 60) {Q : Int32 → Mem → Prop} {M : Mem} {m : Nat} {acc x : Int32} (hx : t012 x) (h : w_X9_mayAt_338 a1 a2 Q m x3 (nI i) (nI j) (jn3 (fR x3) (M.1 (42, 0, 0, 0) i) (M.1 (42, 0, 0, 0) j) x acc) (x + 1) M) : w_X9_mayAt_338 a1 a2 Q (m + 1) x3 (nI i) (nI j) acc x M := by
  have h3 : ¬ (3 : Int32) ≤ x := by rcases hx with h | h | h <;> subst h <;> decide
  rw [w_X9_mayAt_338, if_neg h3]
  refine ⟨4, c9_347 hi hj hx (Or.inl rfl) (c9_347 hi hj hx (Or.inr (Or.inl rfl)) (c9_347 hi hj hx (Or.inr (Or.inr rfl)) ?_))⟩
  rw [w_X9_mayAt_347, if_pos (by decide)]
  exact h
theorem c9_338s {a1 a2 x3 : Int32} {i j : Nat} (hi : i < 60) (hj : j < 60) {Q : Int32 → Mem → Prop} {M : Mem} (hQ : Q (jnO (fR x3) (M.1 (42, 0, 0, 0) i) (M.1 (42, 0, 0, 0) j)) M) : ∃ k0, w_X9_mayAt_338 a1 a2 Q k0 x3 (nI i) (nI j) 0 0 M := by
  refine ⟨4, c9_338 hi hj (Or.inl rfl) (c9_338 hi hj (Or.inr (Or.inl rfl)) (c9_338 hi hj (Or.inr (Or.inr rfl)) ?_))⟩
  rw [w_X9_mayAt_338, if_pos (by decide)]
  exact hQ
theorem jn_nt {a : Int32} (h : t07 a) : jnO (fR 14) a a = ntO a := by
  rcases h with h | h | h | h | h | h | h | h <;> subst h <;> decide
theorem b1_iff {a b : Int32} (ha : t03 a) (hb : t03 b) : ((a &&& b) &&& 1 = 1 ↔ ¬ (a &&& b) &&& 1 = 0) ∧ (¬ (a &&& b) &&& 1 = 0 → ¬ a &&& 1 = 0 ∧ ¬ b &&& 1 = 0) := by
  rcases ha with h | h | h | h <;> subst h <;> rcases hb with h | h | h | h <;> subst h <;> decide
/-- the numbers of a place of the reference, as far as they count -/
def tR (M : Mem) (k : Nat) (X : tri) : Prop := M.1 (42, 0, 0, 0) k = X.1 ∧ (¬ X.1 &&& 1 = 0 → M.1 (43, 0, 0, 0) k = X.2.1 ∧ M.1 (44, 0, 0, 0) k = X.2.2)
theorem c9_109 {a1 a2 x3 : Int32} {i j : Nat} (hi : i < 60) (hj : j < 60) {Q : Int32 → Mem → Prop} {M : Mem} {X Y : tri} (hX : tR M i X) (hY : tR M j Y) (h3 : t03 X.1) (h3' : t03 Y.1) (hL : x3 = 10 → Q (cpL X Y) M) (hE : ¬ x3 = 10 → Q (cpE X Y) M) : w_X9_mayAt_109 a1 a2 Q x3 (nI i) (nI j) M := by
  obtain ⟨bi, bc⟩ := b1_iff h3 h3'
  have fin : ∀ t0, t0 = cpT X.1 Y.1 → w_X9_mayAt_134 a1 a2 Q x3 (nI i) (nI j) t0 M := by
    intro t0 ht
    unfold w_X9_mayAt_134
    rw [nI_clamp (n := i) (by omega), nI_clamp (n := j) (by omega), hX.1, hY.1]
    refine ⟨vpT (by omega) (by omega), vpT (by omega) (by omega), ?_⟩
    unfold cpL at hL
    unfold cpE at hE
    rw [← ht] at hL hE
    by_cases z : (X.1 &&& Y.1) &&& 1 = 0
    · rw [if_pos z] at hL hE
      rw [if_neg (fun q => bi.mp q z)]
      by_cases e : x3 = 10
      · exact hL e
      · exact hE e
    rw [if_neg z] at hL hE
    rw [if_pos (bi.mpr z)]
    obtain ⟨z1, z2⟩ := bc z
    obtain ⟨x1, x2⟩ := hX.2 z1
    obtain ⟨y1, y2⟩ := hY.2 z2
    by_cases e : x3 = 10
    · rw [if_pos e, x1, x2, y1, y2]
      have hL := hL e
      refine ⟨vpT (by omega) (by omega), vpT (by omega) (by omega), ?_⟩
      by_cases c : Y.2.2 ≤ X.2.1
      · rw [if_pos c] at hL ⊢
        refine ⟨vpT (by omega) (by omega), vpT (by omega) (by omega), ?_⟩
        by_cases d : X.2.2 < Y.2.1
        · rw [if_pos d] at hL ⊢; intro x6 e6; rw [e6]; exact hL
        · rw [if_neg d] at hL ⊢; intro x6 e6; rw [e6]; exact hL
      · rw [if_neg c] at hL ⊢
        refine ⟨vpT (by omega) (by omega), vpT (by omega) (by omega), ?_⟩
        by_cases d : X.2.2 < Y.2.1
        · rw [if_pos d] at hL ⊢; intro x6 e6; rw [e6]; exact hL
        · rw [if_neg d] at hL ⊢; intro x6 e6; rw [e6]; exact hL
    · rw [if_neg e, x1, x2, y1, y2]
      have hE := hE e
      have f272 : ∀ t v : Int32, (t = 0 ∧ v = 2) ∨ (t = 1 ∧ v = 0) → Q (t0 + ((if Y.2.2 < X.2.1 ∨ X.2.2 < Y.2.1 then 0 else 1) + v)) M → w_X9_mayAt_272 a1 a2 Q (nI i) (nI j) t0 t M := by
        intro t v htv hq
        unfold w_X9_mayAt_272
        rw [nI_clamp (n := i) (by omega), nI_clamp (n := j) (by omega), x1, x2, y1, y2]
        refine ⟨vpT (by omega) (by omega), vpT (by omega) (by omega), ?_⟩
        by_cases c : Y.2.2 < X.2.1
        · rw [if_pos (Or.inl c)] at hq
          rw [if_pos c]
          rcases htv with ⟨e1, e2⟩ | ⟨e1, e2⟩ <;> subst e1 <;> subst e2
          · rw [if_pos rfl]; intro x6 e6; rw [e6]; exact hq
          · rw [if_neg (by decide)]; intro x6 e6; rw [e6]; exact hq
        rw [if_neg c]
        refine ⟨vpT (by omega) (by omega), vpT (by omega) (by omega), ?_⟩
        by_cases d : X.2.2 < Y.2.1
        · rw [if_pos (Or.inr d)] at hq
          rw [if_pos d]
          rcases htv with ⟨e1, e2⟩ | ⟨e1, e2⟩ <;> subst e1 <;> subst e2
          · rw [if_pos rfl]; intro x6 e6; rw [e6]; exact hq
          · rw [if_neg (by decide)]; intro x6 e6; rw [e6]; exact hq
        rw [if_neg (fun h => h.elim c d)] at hq
        rw [if_neg d]
        rcases htv with ⟨e1, e2⟩ | ⟨e1, e2⟩ <;> subst e1 <;> subst e2
        · rw [if_pos rfl]; intro x6 e6; rw [e6]; exact hq
        · rw [if_neg (by decide)]; intro x6 e6; rw [e6]; exact hq
      have no : ¬ (X.2.1 = X.2.2 ∧ X.2.1 = Y.2.1 ∧ X.2.1 = Y.2.2) → w_X9_mayAt_271 a1 a2 Q (nI i) (nI j) t0 M := fun hn => by
        rw [if_neg hn] at hE
        exact f272 0 2 (Or.inl ⟨rfl, rfl⟩) hE
      refine ⟨vpT (by omega) (by omega), vpT (by omega) (by omega), ?_⟩
      by_cases c1 : X.2.1 = X.2.2
      · rw [if_pos c1]
        refine ⟨vpT (by omega) (by omega), vpT (by omega) (by omega), ?_⟩
        by_cases c2 : X.2.1 = Y.2.1
        · rw [if_pos c2]
          refine ⟨vpT (by omega) (by omega), vpT (by omega) (by omega), ?_⟩
          by_cases c3 : X.2.1 = Y.2.2
          · rw [if_pos c3]
            rw [if_pos (show X.2.1 = X.2.2 ∧ X.2.1 = Y.2.1 ∧ X.2.1 = Y.2.2 from ⟨c1, c2, c3⟩)] at hE
            exact f272 1 0 (Or.inr ⟨rfl, rfl⟩) hE
          · rw [if_neg c3]; exact no (fun z => c3 z.2.2)
        · rw [if_neg c2]; exact no (fun z => c2 z.2.1)
      · rw [if_neg c1]; exact no (fun z => c1 z.1)
  unfold w_X9_mayAt_109
  rw [nI_clamp (n := i) (by omega), nI_clamp (n := j) (by omega), hX.1, hY.1]
  refine ⟨vpT (by omega) (by omega), vpT (by omega) (by omega), ?_⟩
  by_cases z : (X.1 ||| Y.1) &&& 2 = 0
  · rw [if_pos z]; exact fin 0 (by unfold cpT; rw [if_pos z])
  · rw [if_neg z]; exact fin 4 (by unfold cpT; rw [if_neg z])
/-- the column of a sign, in what is known -/
theorem col_ix {b j : Nat} {s : Int32} (hs : s = nI (97 + j)) : (12 : Int32) * ((4 : Int32) * nI b + s - 97) = nI (12 * (4 * b + j)) := by
  rw [hs, nI_ml, nI_add, show nI (4 * b + (97 + j)) - 97 = nI (4 * b + (97 + j) - 97) from nI_sl (n := 97) (by show 97 ≤ 4 * b + (97 + j); omega), show 4 * b + (97 + j) - 97 = 4 * b + j by omega, nI_ml]
theorem c9_mayAt {M : Mem} {g : Nat → Int32} {n : Nat} {E : Nat → Nat} (hC : RC M g n E) {b q c : Nat} (hb : b < 6) (hq : q < n) (hc : kd g q = c) (h10 : 10 ≤ c) {X Y : tri} (hX : 1 ≤ innr c → tR M (q + 1) X) (hY : innr c = 2 → tR M (E (q + 1)) Y) (x3 : c ≤ 11 → t03 X.1) (y3 : c ≤ 11 → t03 Y.1) (x7 : c = 14 → t07 X.1) {Q : Int32 → Mem → Prop} (hQ : Q (rgc g E (bcR M b) q c X Y).1 M) : w_X9_mayAt (nI b) (nI q) Q M := by
  have hle : c ≤ 15 := by rw [← hc]; exact kd_le g q
  have h35 := hC.k35 hq hc (by omega)
  have hCC := hC
  obtain ⟨hn60, -, h29, h34, hn, hs, hsg, hrr⟩ := hC
  have hz : c ≠ 0 := by omega
  obtain ⟨s1, s2, s3, s4, s5, s6⟩ := sh hn hs hq hc hz
  obtain ⟨r1, r2, r3⟩ := hrr.2 q hq (by rw [hc]; exact hz)
  rw [hc] at r2
  unfold w_X9_mayAt
  rw [nI_clamp (n := q) (by omega), h35]
  refine ⟨vpT (by omega) (by omega), fun x3v e3 => ?_⟩
  subst e3
  by_cases h15 : c = 15
  · subst h15
    rw [if_pos (show nI 15 = 15 from rfl)]
    obtain ⟨a1, a2⟩ := s6 rfl
    obtain ⟨j, j1, j2, j3, j4⟩ := isL_ix (hsg (q + 1) a1) a2
    rw [nI_1, nI_clamp (n := q + 1) (by omega), h34, col_ix j3, show nI (12 * (4 * b + j)) + 2 = nI (12 * (4 * b + j) + 2) from nI_al _ _, nI_clamp (n := b) (by omega), nI_clamp (n := 12 * (4 * b + j) + 2) (by omega)]
    have hQ : Q (mC (cxT (bcR M b) (g (q + 1))).1 (bcR M b).2) M := hQ
    rw [cxT_ix j2 j1, show (bcR M b).1 j = (M.1 (32, 0, 0, 0) (12 * (4 * b + j) + 2), M.1 (32, 0, 0, 0) (12 * (4 * b + j)), M.1 (32, 0, 0, 0) (12 * (4 * b + j) + 1)) from if_pos j1] at hQ
    refine ⟨vpT (by omega) (by omega), vpT (by omega) (by omega), fun x4 e4 => ?_⟩
    rw [e4]
    unfold mC at hQ
    dsimp only at hQ
    by_cases p1 : M.1 (32, 0, 0, 0) (12 * (4 * b + j) + 2) ≤ 0
    · rw [if_pos p1] at hQ ⊢
      refine ⟨vpT (by omega) (by omega), ?_⟩
      by_cases p2 : M.1 (31, 0, 0, 0) b ≤ M.1 (32, 0, 0, 0) (12 * (4 * b + j) + 2)
      · rw [if_pos p2]; rw [if_pos (show (bcR M b).2 ≤ M.1 (32, 0, 0, 0) (12 * (4 * b + j) + 2) from p2)] at hQ; exact hQ
      · rw [if_neg p2]; rw [if_neg (show ¬ (bcR M b).2 ≤ M.1 (32, 0, 0, 0) (12 * (4 * b + j) + 2) from p2)] at hQ; exact hQ
    · rw [if_neg p1] at hQ ⊢
      refine ⟨vpT (by omega) (by omega), ?_⟩
      by_cases p2 : M.1 (31, 0, 0, 0) b ≤ M.1 (32, 0, 0, 0) (12 * (4 * b + j) + 2)
      · rw [if_pos p2]; rw [if_pos (show (bcR M b).2 ≤ M.1 (32, 0, 0, 0) (12 * (4 * b + j) + 2) from p2)] at hQ; exact hQ
      · rw [if_neg p2]; rw [if_neg (show ¬ (bcR M b).2 ≤ M.1 (32, 0, 0, 0) (12 * (4 * b + j) + 2) from p2)] at hQ; exact hQ
  rw [if_neg (show ¬ nI c = 15 from nIne (by omega) (by decide) h15)]
  refine ⟨vpT (by omega) (by omega), fun x4 e4 => ?_⟩
  rw [r1] at e4
  subst e4
  refine c9_inner (by omega) hle ?_
  have h : c = 10 ∨ c = 11 ∨ c = 12 ∨ c = 13 ∨ c = 14 := by omega
  rcases h with h | h | h | h | h <;> subst h
  · obtain ⟨a1, a2, a3⟩ := s1 (by decide)
    obtain ⟨b1, b2, b3, b4⟩ := s2 rfl
    rw [show innr 10 = 2 from rfl, if_neg (by decide)]
    refine ⟨vpT (by omega) (by omega), fun x5 e5 => ?_⟩
    rw [r2, if_neg (by decide)] at e5
    rw [if_pos (show nI 10 = 10 from rfl), e5]
    exact c9_109 (by omega) (by omega) (hX (by decide)) (hY rfl) (x3 (by omega)) (y3 (by omega)) (fun _ => hQ) (fun h => absurd rfl h)
  · obtain ⟨a1, a2, a3⟩ := s1 (by decide)
    obtain ⟨b1, b2, b3, b4⟩ := s2 rfl
    rw [show innr 11 = 2 from rfl, if_neg (by decide)]
    refine ⟨vpT (by omega) (by omega), fun x5 e5 => ?_⟩
    rw [r2, if_neg (by decide)] at e5
    rw [if_neg (show ¬ nI 11 = 10 by decide), if_pos (show nI 11 = 11 from rfl), e5]
    exact c9_109 (by omega) (by omega) (hX (by decide)) (hY rfl) (x3 (by omega)) (y3 (by omega)) (fun h => absurd h (by decide)) (fun _ => hQ)
  · obtain ⟨a1, a2, a3⟩ := s1 (by decide)
    obtain ⟨b1, b2, b3, b4⟩ := s2 rfl
    rw [show innr 12 = 2 from rfl, if_neg (by decide)]
    refine ⟨vpT (by omega) (by omega), fun x5 e5 => ?_⟩
    rw [r2, if_neg (by decide)] at e5
    rw [if_neg (show ¬ nI 12 = 10 by decide), if_neg (show ¬ nI 12 = 11 by decide), e5]
    refine c9_338s (by omega) (by omega) ?_
    rw [(hX (by decide)).1, (hY rfl).1]
    exact hQ
  · obtain ⟨a1, a2, a3⟩ := s1 (by decide)
    obtain ⟨b1, b2, b3, b4⟩ := s2 rfl
    rw [show innr 13 = 2 from rfl, if_neg (by decide)]
    refine ⟨vpT (by omega) (by omega), fun x5 e5 => ?_⟩
    rw [r2, if_neg (by decide)] at e5
    rw [if_neg (show ¬ nI 13 = 10 by decide), if_neg (show ¬ nI 13 = 11 by decide), e5]
    refine c9_338s (by omega) (by omega) ?_
    rw [(hX (by decide)).1, (hY rfl).1]
    exact hQ
  · obtain ⟨a1, a2, a3⟩ := s1 (by decide)
    rw [show innr 14 = 1 from rfl, if_pos (by decide), if_neg (show ¬ nI 14 = 10 by decide), if_neg (show ¬ nI 14 = 11 by decide)]
    refine c9_338s (by omega) (by omega) ?_
    rw [(hX (by decide)).1, show nI 14 = 14 from rfl, jn_nt (x7 rfl)]
    exact hQ
