/-! what the whole question may be of a block; verdict -/
def lcF (g : Nat → Int32) (n : Nat) (E : Nat → Nat) (kn : Nat → Int32) (k : Nat) : Nat → Int32
  | 0 => 0
  | i + 1 => if kn (12 * k + 8 + i) ≤ 0 then lcF g n E kn k i else lcF g n E kn k i ||| btO (ev g n E (fun _ => kn (12 * k + 4 + i)) 0)
def lcE (g : Nat → Int32) (n : Nat) (E : Nat → Nat) (kn : Nat → Int32) (k m : Nat) : Int32 := if kn (12 * k + 2) ≤ 0 then lcF g n E kn k m else lcF g n E kn k m ||| btO (ev g n E (fun _ => 1000) 0)
def chM (g : Nat → Int32) (n : Nat) (E : Nat → Nat) (M : Mem) (b : Nat) (v : Int32) : Int32 := if M.1 (31, 0, 0, 0) b = 0 then 0 else if v = -2000000 then (rg g n E (bcR M b) 0).1 else if M.1 (32, 0, 0, 0) (12 * (4 * b + v.toNatClampNeg) + 3) < 0 then (rg g n E (bcR M b) 0).1 else lcE g n E (M.1 (32, 0, 0, 0)) (4 * b + v.toNatClampNeg) (M.1 (32, 0, 0, 0) (12 * (4 * b + v.toNatClampNeg) + 3)).toNatClampNeg
theorem chM_kp {g : Nat → Int32} {n : Nat} {E : Nat → Nat} {M M1 : Mem} {b : Nat} {v : Int32} (h : ∀ i : ix, i.1 = 31 ∨ i.1 = 32 → M1.1 i = M.1 i) : chM g n E M1 b v = chM g n E M b v := by
  unfold chM
  rw [bcR_kp h, h (31, 0, 0, 0) (by simp), h (32, 0, 0, 0) (by simp)]
theorem kd_00 {g : Nat → Int32} {n : Nat} (hn : stk g n = some []) (h0 : 0 < n) : kd g 0 ≠ 0 ∧ rol g 0 = 1 := ⟨kd_nz hn h0 (show stk g 0 = some [1] from rfl) (by omega), rol_of (show stk g 0 = some [1] from rfl)⟩
theorem ev_0t {g : Nat → Int32} {n : Nat} {E : Nat → Nat} {R : Nat → Int32} (hn : stk g n = some []) (h0 : 0 < n) (hs : SQ g n E) : t012 (ev g n E R 0) := ev_t hn hs h0 (kd_00 hn h0).1 (kd_00 hn h0).2
theorem ev_col {g : Nat → Int32} {n c : Nat} {E : Nat → Nat} {R : Nat → Int32} (hn : stk g n = some []) (h0 : 0 < n) (hs : SQ g n E) (hc : c < 4) (hl : ∀ k, k < n → isL (g k) → g k = nI (97 + c)) {v : Int32} (hv : R c = v) : ev g n E R 0 = ev g n E (fun _ => v) 0 := by
  refine ev_R hn hs (fun k hk h => ?_) h0 (kd_00 hn h0).1
  rw [hl k hk h]
  unfold tx
  rw [show nI (97 + c) - 97 = nI (97 + c - 97) from nI_sl (n := 97) (by show 97 ≤ 97 + c; omega), show 97 + c - 97 = c by omega, nI_clamp (by omega), hv]
abbrev clK : List Nat := [19, 24]
theorem c8_list_5 {g : Nat → Int32} {n : Nat} {E : Nat → Nat} {M0 : Mem} (hC : CQ M0 g n E) {b c sz : Nat} (hc : c < 4) (hl : ∀ k, k < n → isL (g k) → g k = nI (97 + c)) {kn : Nat → Int32} {k : Nat} (hsz : sz ≤ 4) (h2 : M0.1 (7, 0, b, c) 2 = kn (12 * k + 2)) (h3 : M0.1 (7, 0, b, c) 3 = nI sz) (h89 : ∀ i, i < sz → M0.1 (8, 0, b, c) i = kn (12 * k + 4 + i) ∧ M0.1 (9, 0, b, c) i = kn (12 * k + 8 + i)) {Q : Int32 → Mem → Prop} (hQ : ∀ M1, onl M0 M1 clK → Q (lcE g n E kn k sz) M1) : ∀ m i M, i + m = sz → onl M0 M clK → w_X8_chancesByList_5 0 b c (nI c) Q (m + 1) (lcF g n E kn k i) (nI i) M := by
  have hn := hC.2.2.2.2.1
  have hs := hC.2.2.2.2.2.1
  have h0 := hC.2.1
  have row : ∀ (M : Mem) (v : Int32), onl M0 M clK → ∀ {Q2 : Int32 → Mem → Prop}, (∀ M1, onl M0 M1 clK → Q2 (btO (ev g n E (fun _ => v) 0)) M1) → w_X3_judge (24, 0, 0, 0) 4 (fun (r : Int32) (M1 : Mem) => w_X8_chanceOf r Q2 M1) (mu M (24, 0, 0, 0) c v) := by
    intro M v hf Q2 h
    have f1 : onl M0 (mu M (24, 0, 0, 0) c v) clK := hf.tr (onl.mr _ (by simp))
    have hC1 : CQ (mu M (24, 0, 0, 0) c v) g n E := hC.kp (fun i h1 h2 => f1.1 i (by simp; omega))
    refine c3_judge hC1 (by simp) (fun M1 f2 => c8_chanceOf ?_)
    rw [ev_col hn h0 hs hc hl (v := v) (by rw [mu_row, upd_at])]
    exact h M1 (f1.tr (f2.sub (by simp)))
  intro m
  induction m with
  | zero =>
    intro i M hi hf
    have : i = sz := by omega
    subst this
    rw [w_X8_chancesByList_5, hf.1 (7, 0, b, c) (by simp), h3, h2, if_pos (by rw [nI_leI (by omega) (by omega)]; omega)]
    unfold lcE at hQ
    by_cases z : kn (12 * k + 2) ≤ 0
    · rw [if_pos z] at hQ ⊢
      exact hQ M hf
    · rw [if_neg z] at hQ ⊢
      refine ⟨vpT (by omega) (by omega), ?_⟩
      rw [nI_clamp (by omega)]
      exact row M 1000 hf (fun M1 f1 x ex => by rw [ex]; exact hQ M1 f1)
  | succ m ih =>
    intro i M hi hf
    obtain ⟨e8, e9⟩ := h89 i (by omega)
    rw [w_X8_chancesByList_5, hf.1 (7, 0, b, c) (by simp), h3, if_neg (by rw [nI_leI (by omega) (by omega)]; omega), nI_clamp (n := i) (by omega), hf.1 (9, 0, b, c) (by simp), hf.1 (8, 0, b, c) (by simp), e8, e9, nI_1]
    refine ⟨vpT (by omega) (by omega), ?_⟩
    by_cases z : kn (12 * k + 8 + i) ≤ 0
    · rw [if_pos z]
      have := ih (i + 1) M (by omega) hf
      rw [show lcF g n E kn k (i + 1) = lcF g n E kn k i from if_pos z] at this
      exact this
    · rw [if_neg z]
      refine ⟨vpT (by omega) (by omega), vpT (by omega) (by omega), ?_⟩
      rw [nI_clamp (n := c) (by omega)]
      refine row M _ hf (fun M1 f1 x ex => ?_)
      have := ih (i + 1) M1 (by omega) f1
      rw [show lcF g n E kn k (i + 1) = lcF g n E kn k i ||| btO (ev g n E (fun _ => kn (12 * k + 4 + i)) 0) from if_neg z] at this
      rw [ex]
      exact this
abbrev ciK : List Nat := [19, 21, 22, 23, 24]
theorem c8_chancesIn {g : Nat → Int32} {n : Nat} {E : Nat → Nat} {M : Mem} (hC : CQ M g n E) {v : Int32} (hv : OC g n v) {b mn : Nat} (hB : RB M 0 b (M.1 (30, 0, 0, 0)) (M.1 (32, 0, 0, 0)) mn) (h31 : M.1 (31, 0, 0, 0) b = nI mn) {Q : Int32 → Mem → Prop} (hQ : ∀ M1, onl M M1 ciK → Q (chM g n E M b v) M1) : w_X8_chancesIn 0 b Q M := by
  have hn := hC.2.2.2.2.1
  have hs := hC.2.2.2.2.2.1
  have h0 := hC.2.1
  unfold w_X8_chancesIn
  unfold chM at hQ
  rw [h31] at hQ
  rw [hB.1]
  by_cases m0 : nI mn = 0
  · rw [if_pos m0] at hQ ⊢
    exact hQ M onl.rf
  rw [if_neg m0] at hQ ⊢
  refine c1_onlyColumn hC hv ?_
  have rng : (∀ M1, onl M M1 ciK → Q (rg g n E (bcR M b) 0).1 M1) → w_X2_judge 0 b (fun M52 => Q (M52.1 (21, 0, 0, 0) 0) M52) M := by
    intro h
    refine c2_judge hC (fun M1 f1 hg => ?_)
    have e := (hg 0 (by omega) h0 (kd_00 hn h0).1).1
    rw [bc_eq hB h31] at e
    rw [e]
    exact h M1 (f1.sub (by simp))
  by_cases vN : v = -2000000
  · rw [if_pos vN] at hQ ⊢
    exact rng hQ
  rw [if_neg vN] at hQ ⊢
  rcases hv with h | ⟨c, hc, ev', -, hl⟩
  · exact absurd h.1 vN
  subst ev'
  rw [nI_clamp (by omega)] at hQ ⊢
  refine ⟨vpT (by omega) (by omega), ?_⟩
  obtain ⟨q0, q1, q2, q3⟩ := hB.2.2.2 c hc
  rcases q3 with ⟨e1, e2, e3⟩ | ⟨sz, hsz, e1, e2, e3, e4⟩
  · rw [e2, if_neg (by decide)]
    rw [e1, if_pos (by decide)] at hQ
    exact rng hQ
  · rw [e2, if_pos rfl]
    rw [e1, if_neg (nI_nn (by omega)), nI_clamp (by omega)] at hQ
    refine ⟨vpT (by omega) (by omega), ?_⟩
    have h := c8_list_5 hC hc hl (k := 4 * b + c) hsz q2 e3 (fun i hi => ⟨(e4 i hi).1, (e4 i hi).2⟩) (Q := Q) (fun M1 f1 => hQ M1 (f1.sub (by simp))) sz 0 M (by omega) onl.rf
    exact ⟨sz + 1, h⟩
abbrev mlK : List Nat := [40, 41]
theorem c9_mayOf_60 {g : Nat → Int32} {n : Nat} {E : Nat → Nat} {M0 : Mem} (hC : RC M0 g n E) {a1 : Int32} {c sz k : Nat} (hc : c < 4) (hk : k < 24) (hl : ∀ k, k < n → isL (g k) → g k = nI (97 + c)) (hsz : sz ≤ 4) (h3 : M0.1 (32, 0, 0, 0) (12 * k + 3) = nI sz) {Q : Int32 → Mem → Prop} (hQ : ∀ M1, onl M0 M1 mlK → Q (lcE g n E (M0.1 (32, 0, 0, 0)) k sz) M1) : ∀ m i M, i + m = sz → onl M0 M mlK → w_X9_mayOf_60 a1 Q (m + 2) (nI c) (nI (12 * k)) (lcF g n E (M0.1 (32, 0, 0, 0)) k i) (nI i) M := by
  have hn := hC.2.2.2.2.1
  have hs := hC.2.2.2.2.2.1
  have h0 := hC.2.1
  have a3 : nI (12 * k) + 3 = nI (12 * k + 3) := nI_al _ _
  have a2 : nI (12 * k) + 2 = nI (12 * k + 2) := nI_al _ _
  have a4 : nI (12 * k) + 4 = nI (12 * k + 4) := nI_al _ _
  have a8 : nI (12 * k) + 8 = nI (12 * k + 8) := nI_al _ _
  have row : ∀ (M : Mem) (w : Int32), onl M0 M mlK → ∀ {Q2 : Int32 → Mem → Prop}, (∀ M1, onl M0 M1 mlK → Q2 (btO (ev g n E (fun _ => w) 0)) M1) → w_X9_layRow (fun (M1 : Mem) => w_X9_bit (M1.1 (40, 0, 0, 0) 0) Q2 M1) (mu M (41, 0, 0, 0) c w) := by
    intro M w hf Q2 h
    have f1 : onl M0 (mu M (41, 0, 0, 0) c w) mlK := hf.tr (onl.mr _ (by simp))
    have hC1 : RC (mu M (41, 0, 0, 0) c w) g n E := hC.kp (fun i h1 => f1.1 i (by simp; omega))
    refine c9_layRow hC1 (fun M1 f2 e => ?_)
    rw [e, ev_col hn h0 hs hc hl (v := w) (by rw [mu_row, upd_at])]
    exact c9_bit (ev_0t hn h0 hs) (h M1 (f1.tr (f2.sub (by simp))))
  intro m
  induction m with
  | zero =>
    intro i M hi hf
    have : i = sz := by omega
    subst this
    have e32 : M.1 (32, 0, 0, 0) = M0.1 (32, 0, 0, 0) := hf.1 _ (by simp)
    rw [w_X9_mayOf_60, a3, nI_clamp (n := 12 * k + 3) (by omega), e32, h3, if_neg (by rw [nI_ltI (by omega) (by omega)]; omega), if_pos rfl]
    refine ⟨vpT (by omega) (by omega), vpT (by omega) (by omega), ?_⟩
    have last : ∀ x M1, onl M0 M1 mlK → x = lcE g n E (M0.1 (32, 0, 0, 0)) k i → w_X9_mayOf_60 a1 Q 1 (nI c) (nI (12 * k)) x (nI (i + 1)) M1 := by
      intro x M1 f1 ex
      have e32 : M1.1 (32, 0, 0, 0) = M0.1 (32, 0, 0, 0) := f1.1 _ (by simp)
      rw [w_X9_mayOf_60, a3, nI_clamp (n := 12 * k + 3) (by omega), e32, h3, if_pos (by rw [nI_ltI (by omega) (by omega)]; omega), ex]
      exact ⟨vpT (by omega) (by omega), hQ M1 f1⟩
    unfold w_X9_mayOf_91
    rw [if_neg (by decide), a2, nI_clamp (n := 12 * k + 2) (by omega), e32, nI_1]
    refine ⟨vpT (by omega) (by omega), ?_⟩
    by_cases z : M0.1 (32, 0, 0, 0) (12 * k + 2) ≤ 0
    · rw [if_pos z]
      exact last _ M hf (by unfold lcE; rw [if_pos z])
    · rw [if_neg z]
      unfold w_X9_mayOf_127
      rw [if_neg (by decide), nI_clamp (n := c) (by omega), nI_1]
      refine ⟨vpT (by omega) (by omega), row M 1000 hf (fun M1 f1 x ex => ?_)⟩
      exact last _ M1 f1 (by unfold lcE; rw [if_neg z]; exact ex)
  | succ m ih =>
    intro i M hi hf
    have e32 : M.1 (32, 0, 0, 0) = M0.1 (32, 0, 0, 0) := hf.1 _ (by simp)
    rw [w_X9_mayOf_60, a3, nI_clamp (n := 12 * k + 3) (by omega), e32, h3, if_neg (by rw [nI_ltI (by omega) (by omega)]; omega), if_neg (nIne (by omega) (by omega) (by omega))]
    refine ⟨vpT (by omega) (by omega), vpT (by omega) (by omega), ?_⟩
    unfold w_X9_mayOf_91
    rw [if_pos rfl, a8, nI_add, nI_clamp (n := 12 * k + 8 + i) (by omega), e32, nI_1]
    refine ⟨vpT (by omega) (by omega), ?_⟩
    by_cases z : M0.1 (32, 0, 0, 0) (12 * k + 8 + i) ≤ 0
    · rw [if_pos z]
      have := ih (i + 1) M (by omega) hf
      rw [show lcF g n E (M0.1 (32, 0, 0, 0)) k (i + 1) = lcF g n E (M0.1 (32, 0, 0, 0)) k i from if_pos z] at this
      exact this
    · rw [if_neg z]
      unfold w_X9_mayOf_127
      rw [if_pos rfl, a4, nI_add, nI_clamp (n := 12 * k + 4 + i) (by omega), e32, nI_clamp (n := c) (by omega), nI_1]
      refine ⟨vpT (by omega) (by omega), vpT (by omega) (by omega), row M _ hf (fun M1 f1 x ex => ?_)⟩
      have := ih (i + 1) M1 (by omega) f1
      rw [show lcF g n E (M0.1 (32, 0, 0, 0)) k (i + 1) = lcF g n E (M0.1 (32, 0, 0, 0)) k i ||| btO (ev g n E (fun _ => M0.1 (32, 0, 0, 0) (12 * k + 4 + i)) 0) from if_neg z] at this
      rw [ex]
      exact this
abbrev moK : List Nat := [40, 41, 42, 43, 44]
theorem c9_mayOf {g : Nat → Int32} {n : Nat} {E : Nat → Nat} {M : Mem} (hC : RC M g n E) {v : Int32} (hv : OC g n v) {b : Nat} (hb : b < 6) (hok : ∀ c, c < 4 → okF (M.1 (32, 0, 0, 0)) (4 * b + c)) {Q : Int32 → Mem → Prop} (hQ : ∀ M1, onl M M1 moK → Q (chM g n E M b v) M1) : w_X9_mayOf (nI b) Q M := by
  have hn := hC.2.2.2.2.1
  have hs := hC.2.2.2.2.2.1
  have h0 := hC.2.1
  unfold w_X9_mayOf
  unfold chM at hQ
  rw [nI_clamp (n := b) (by omega)]
  refine ⟨vpT (by omega) (by omega), ?_⟩
  by_cases m0 : M.1 (31, 0, 0, 0) b = 0
  · rw [if_pos m0] at hQ ⊢
    exact hQ M onl.rf
  rw [if_neg m0] at hQ ⊢
  refine c9_onlyColumn hC hv (fun x ex => ?_)
  have rng : (∀ M1, onl M M1 moK → Q (rg g n E (bcR M b) 0).1 M1) → w_X9_layBlock (nI b) (fun M44 => Q (M44.1 (42, 0, 0, 0) 0) M44) M := by
    intro h
    refine c9_layBlock hC hb (fun M1 f1 hg => ?_)
    have e := (hg 0 (by omega) h0 (kd_00 hn h0).1).1
    rw [e]
    exact h M1 (f1.sub (by simp))
  by_cases vN : v = -2000000
  · rw [if_pos vN] at hQ ⊢
    exact rng hQ
  rw [if_neg vN] at hQ ⊢
  rcases hv with h | ⟨c, hc, ev', -, hl⟩
  · exact absurd h.1 vN
  subst ev'
  rw [nI_clamp (by omega)] at hQ
  rw [nI_ml, nI_add, nI_ml] at ex
  rw [ex, show nI (12 * (4 * b + c)) + 3 = nI (12 * (4 * b + c) + 3) from nI_al _ _, nI_clamp (by omega)]
  refine ⟨vpT (by omega) (by omega), ?_⟩
  rcases hok c hc with e1 | ⟨sz, hsz, e1⟩
  · rw [e1, if_neg (by decide)]
    rw [e1, if_pos (by decide)] at hQ
    exact rng hQ
  · rw [e1, if_pos (nI_ge0 (by omega))]
    rw [e1, if_neg (nI_nn (by omega)), nI_clamp (by omega)] at hQ
    have h := c9_mayOf_60 hC (a1 := nI b) hc (k := 4 * b + c) (by omega) hl hsz e1 (Q := Q) (fun M1 f1 => hQ M1 (f1.sub (by simp))) sz 0 M (by omega) onl.rf
    exact ⟨sz + 2, h⟩
def ruO (x : Int32) : Int32 := if x &&& 1 = 0 then 0 else if x = 1 then 1 else 2
theorem c8_rulingOf {x : Int32} {Q : Int32 → Mem → Prop} {M : Mem} (hQ : Q (ruO x) M) : w_X8_rulingOf x Q M := by
  unfold w_X8_rulingOf
  unfold ruO at hQ
  by_cases a : x &&& 1 = 0
  · rw [if_pos a] at hQ ⊢; exact hQ
  rw [if_neg a] at hQ ⊢
  by_cases b : x = 1
  · rw [if_pos b] at hQ ⊢; exact hQ
  rw [if_neg b] at hQ ⊢
  exact hQ
theorem c9_verdictOf {g : Nat → Int32} {n : Nat} {E : Nat → Nat} {M : Mem} (hC : RC M g n E) {v : Int32} (hv : OC g n v) {b : Nat} (hb : b < 6) (hok : ∀ c, c < 4 → okF (M.1 (32, 0, 0, 0)) (4 * b + c)) {Q : Int32 → Mem → Prop} (hQ : ∀ M1, onl M M1 moK → Q (ruO (chM g n E M b v)) M1) : w_X9_verdictOf (nI b) Q M := by
  refine c9_mayOf hC hv hb hok (fun M1 f1 => ?_)
  exact c8_rulingOf (hQ M1 f1)
theorem ci_look {M M1 : Mem} (h : onl M M1 ciK) : look M M1 := onl.look h (by simp)
theorem mo_look {M M1 : Mem} (h : onl M M1 moK) : look M M1 := onl.look h (by simp)
theorem PB.ok {rr kn : Nat → Int32} {b n : Nat} (h : PB rr kn b n) : ∀ c, c < 4 → okF kn (4 * b + c) := fun c hc => (h.2 c hc).1
theorem chM_look {g : Nat → Int32} {n : Nat} {E : Nat → Nat} {M M1 : Mem} {b : Nat} {v : Int32} (h : look M M1) : chM g n E M1 b v = chM g n E M b v := chM_kp (fun i hi => h i (by omega))
/-- verdict -/
theorem o_verdict {a1 a2 : Int32} {M : Mem} (hR : Rel M) {Q : Int32 → Mem → Prop} (hQ : ∀ r M1, OPK (w_X9_verdict a1 a2) M r M1 → Q r M1) : w_X8_verdict a1 a2 Q M := by
  have hR0 := hR
  obtain ⟨⟨mn, hS⟩, hI, n, hn, h29, hq⟩ := hR
  rcases x6 a1 with h | ⟨b, hb, rfl⟩
  · refine c8_isBlock0 h ?_
    rw [if_pos rfl]
    refine hQ _ _ (OPK.same hR0 fun Q q => c9_isBlock0 h ?_)
    rw [if_pos rfl]
    exact q
  obtain ⟨h31, hB, hP⟩ := hS b hb
  refine c8_isBlock hb ?_
  rw [if_neg (by decide)]
  have pre : ∀ {Q : Int32 → Mem → Prop} {M1 : Mem} {w : Nat}, w < 2 → a2 = nI w → (w_X9_read  (fun (r22 : Int32) (M22 : Mem) => (if r22 = (-2000000 : Int32) then (if a2 = 0 then (w_X9_verdictOf (nI b)  (fun (r39 : Int32) (M39 : Mem) => (Q r39 M39)) M22) else (w_X9_mayOf (nI b)  (fun (r47 : Int32) (M47 : Mem) => (Q r47 M47)) M22)) else (Q (-5 : Int32) M22))) M1) → w_X9_verdict (nI b) a2 Q M1 := by
    intro Q M1 w hw ew h
    refine c9_isBlock hb ?_
    rw [if_neg (by decide)]
    refine c9_in1 (by rw [ew]; exact nI_nn (by omega)) (by rw [ew, nI_ltl (by omega) (by omega)]; omega) ?_
    rw [if_neg (by decide)]
    exact h
  have main : ∀ w, w < 2 → a2 = nI w → (w_X1_isFaulty  (fun (r25 : Int32) (M25 : Mem) => (if r25 = 0 then (vp_in (nI b) 6 ∧ (w_X8_chancesIn 0 ((nI b).toNatClampNeg)  (fun (r44 : Int32) (M44 : Mem) => (if a2 = 0 then (w_X8_rulingOf r44  (fun (r53 : Int32) (M53 : Mem) => (Q r53 M53)) M44) else (Q r44 M44))) M25)) else (Q (-5 : Int32) M25))) M) := by
    intro w hw ew
    rcases hq.cases hn with ⟨E, hc, hf, -⟩ | ⟨v, hv, hf, -⟩
    · refine hf _ ?_
      rw [if_pos rfl, nI_clamp (by omega)]
      obtain ⟨v, hv⟩ := OC.ex hc.2.2.2.2.2.2.1
      refine ⟨vpT (by omega) (by omega), c8_chancesIn hc hv hB h31 (fun M1 f1 => ?_)⟩
      have g29 : M1.1 (29, 0, 0, 0) 4 = nI n := by rw [f1.1 _ (by simp)]; exact h29
      have rd : ∀ {Q : Int32 → Mem → Prop}, (∀ M2, look M M2 → M2.1 (10, 0, 0, 0) = M1.1 (10, 0, 0, 0) → RC M2 (M.1 (34, 0, 0, 0)) n E → Q (-2000000) M2) → w_X9_read Q M1 := fun h => c9_readE hn hc.2.2.2.2.1 hc.2.2.2.2.2.1 g29 (by rw [f1.1 _ (by simp)]) (fun M2 f2 rr => h M2 ((ci_look f1).tr (rd_look f2)) (f2.1 _ (by simp)) (hc.rc g29 (by rw [f1.1 _ (by simp)]) f2 rr))
      have hok : ∀ M2, look M M2 → ∀ c, c < 4 → okF (M2.1 (32, 0, 0, 0)) (4 * b + c) := fun M2 l2 => by rw [l2 (32, 0, 0, 0) (by simp)]; exact hP.ok
      by_cases w0 : a2 = 0
      · rw [if_pos w0]
        refine c8_rulingOf (hQ _ _ ⟨f1.1 _ (by simp), fun Q q => pre hw ew (rd (fun M2 l2 e10 hrc => ?_))⟩)
        rw [if_pos rfl, if_pos w0]
        refine c9_verdictOf hrc hv hb (hok M2 l2) (fun M3 f3 => ?_)
        rw [chM_look l2]
        exact q M3 (by rw [f3.1 _ (by simp)]; exact e10) (hR0.look (l2.tr (mo_look f3)))
      · rw [if_neg w0]
        refine hQ _ _ ⟨f1.1 _ (by simp), fun Q q => pre hw ew (rd (fun M2 l2 e10 hrc => ?_))⟩
        rw [if_pos rfl, if_neg w0]
        refine c9_mayOf hrc hv hb (hok M2 l2) (fun M3 f3 => ?_)
        rw [chM_look l2]
        exact q M3 (by rw [f3.1 _ (by simp)]; exact e10) (hR0.look (l2.tr (mo_look f3)))
    · refine hf _ ?_
      rw [if_neg (by decide)]
      refine hQ _ _ ⟨rfl, fun Q q => pre hw ew (c9_readF hn hv h29 rfl (fun M2 f2 => ?_))⟩
      rw [if_neg (hv.nN hn)]
      exact q M2 (f2.1 _ (by simp)) (hR0.look (rd_look f2))
  by_cases w0 : a2 = 0
  · rw [if_pos w0]; exact main 0 (by omega) w0
  rw [if_neg w0]
  by_cases w1 : a2 = 1
  · rw [if_pos w1]; exact main 1 (by omega) w1
  rw [if_neg w1]
  refine hQ _ _ (OPK.same hR0 fun Q q => c9_isBlock hb ?_)
  rw [if_neg (by decide)]
  refine c9_in0 ?_ ?_
  · rcases xn a2 (n := 2) (by omega) with h | ⟨w, hw, e⟩
    · exact h.imp id (lt_of_le_s (by decide))
    · exfalso
      have : w = 0 ∨ w = 1 := by omega
      rcases this with h | h <;> subst h
      · exact w0 e
      · exact w1 e
  · rw [if_pos rfl]; exact q
