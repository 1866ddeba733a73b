/-! total -/
abbrev quad : Type := Int32 × Int32 × Int32 × Int32
def tl1 (t : quad) (v : Int32) : quad := if v = 1000 then (t.1, t.2.1, t.2.2.1, t.2.2.2 + 1) else (lo0 t.1 v, hi0 t.2.1 v, t.2.2.1 + v, t.2.2.2)
def TL (M : Mem) (t : quad) : Prop := M.1 (28, 0, 0, 0) 0 = t.1 ∧ M.1 (28, 0, 0, 0) 1 = t.2.1 ∧ M.1 (28, 0, 0, 0) 2 = t.2.2.1 ∧ M.1 (28, 0, 0, 0) 3 = t.2.2.2
theorem TL.kp {M M1 : Mem} {t : quad} (h : TL M t) (e : M1.1 (28, 0, 0, 0) = M.1 (28, 0, 0, 0)) : TL M1 t := by
  unfold TL
  rw [e]
  exact h
theorem c7_note {M : Mem} {t : quad} (h : TL M t) {v : Int32} {Q : Mem → Prop} (hQ : ∀ M1, onl M M1 [28] → TL M1 (tl1 t v) → Q M1) : w_X7_note v Q M := by
  obtain ⟨h0, h1, h2, h3⟩ := h
  unfold w_X7_note
  unfold tl1 at hQ
  by_cases e : v = 1000
  · rw [if_pos e] at hQ ⊢
    refine hQ _ (onl.mr _ (by simp)) ⟨?_, ?_, ?_, ?_⟩
    · rw [mu_row, upd_ne _ _ (by omega)]; exact h0
    · rw [mu_row, upd_ne _ _ (by omega)]; exact h1
    · rw [mu_row, upd_ne _ _ (by omega)]; exact h2
    · rw [mu_row, upd_at, h3]
  rw [if_neg e] at hQ ⊢
  have fin : ∀ a b, a = lo0 t.1 v → b = hi0 t.2.1 v → Q (mu (mu (mu M (28, 0, 0, 0) 0 a) (28, 0, 0, 0) 1 b) (28, 0, 0, 0) 2 (t.2.2.1 + v)) := by
    intro a b ea eb
    refine hQ _ (((onl.mr _ (by simp)).tr (onl.mr _ (by simp))).tr (onl.mr _ (by simp))) ⟨?_, ?_, ?_, ?_⟩
    · rw [mu_row, upd_ne _ _ (by omega), mu_row, upd_ne _ _ (by omega), mu_row, upd_at]; exact ea
    · rw [mu_row, upd_ne _ _ (by omega), mu_row, upd_at]; exact eb
    · rw [mu_row, upd_at]
    · rw [mu_row, upd_ne _ _ (by omega), mu_row, upd_ne _ _ (by omega), mu_row, upd_ne _ _ (by omega)]; exact h3
  have r1 : ∀ a, (mu M (28, 0, 0, 0) 0 a).1 (28, 0, 0, 0) 1 = t.2.1 := fun a => by rw [mu_row, upd_ne _ _ (by omega)]; exact h1
  have r2 : ∀ a b, (mu (mu M (28, 0, 0, 0) 0 a) (28, 0, 0, 0) 1 b).1 (28, 0, 0, 0) 2 = t.2.2.1 := fun a b => by rw [mu_row, upd_ne _ _ (by omega), mu_row, upd_ne _ _ (by omega)]; exact h2
  rw [h0]
  have half : ∀ a, a = lo0 t.1 v → (if ((mu M (28, 0, 0, 0) 0 a).1 (28, 0, 0, 0) 1) = (-2000000 : Int32) then (∀ M75 : Mem, M75 = (mu (mu (mu M (28, 0, 0, 0) 0 a) (28, 0, 0, 0) 1 v) (28, 0, 0, 0) 2 (((mu (mu M (28, 0, 0, 0) 0 a) (28, 0, 0, 0) 1 v).1 (28, 0, 0, 0) 2) + v)) → (Q M75)) else (∀ M65 : Mem, M65 = (mu (mu M (28, 0, 0, 0) 0 a) (28, 0, 0, 0) 1 (if ((mu M (28, 0, 0, 0) 0 a).1 (28, 0, 0, 0) 1) < v then v else ((mu M (28, 0, 0, 0) 0 a).1 (28, 0, 0, 0) 1))) → (Q (mu M65 (28, 0, 0, 0) 2 ((M65.1 (28, 0, 0, 0) 2) + v))))) := by
    intro a ea
    rw [r1]
    by_cases z : t.2.1 = -2000000
    · rw [if_pos z]
      intro M7 e7
      rw [r2] at e7
      rw [e7]
      exact fin a v ea (by unfold hi0; rw [if_pos z])
    · rw [if_neg z]
      intro M6 e6
      have e62 : M6.1 (28, 0, 0, 0) 2 = t.2.2.1 := by rw [e6]; exact r2 _ _
      rw [e62, e6]
      exact fin a _ ea (by unfold hi0; rw [if_neg z])
  by_cases z : t.1 = -2000000
  · rw [if_pos z]
    exact half v (by unfold lo0; rw [if_pos z])
  · rw [if_neg z]
    exact half _ (by unfold lo0; rw [if_neg z])
def tlR (g : Nat → Int32) (n : Nat) (E : Nat → Nat) (rr : Nat → Int32) (c b : Nat) (t : quad) : Nat → quad
  | 0 => t
  | r + 1 => if ev g n E (rwo rr b r) 0 = 1 then tl1 (tlR g n E rr c b t r) (rr (32 * b + 4 * r + c)) else tlR g n E rr c b t r
def tlB (g : Nat → Int32) (n : Nat) (E : Nat → Nat) (rr : Nat → Int32) (c : Nat) (mn : Nat → Nat) : Nat → quad
  | 0 => (-2000000, -2000000, 0, 0)
  | b + 1 => tlR g n E rr c b (tlB g n E rr c mn b) (mn b)
theorem l28 {M M1 : Mem} (h : onl M M1 [28]) : look M M1 := onl.look h (by simp)
theorem c8_tallyMatches {g : Nat → Int32} {n : Nat} {E : Nat → Nat} {M0 : Mem} (hC : CQ M0 g n E) {rr kn : Nat → Int32} {mn : Nat → Nat} (hB : ∀ b, b < 6 → RB M0 0 b rr kn (mn b)) {c : Nat} (hc : c < 4) {Q : Mem → Prop} (hQ : ∀ M1, look M0 M1 → TL M1 (tlB g n E rr c mn 6) → Q M1) : w_X8_tallyMatches (nI c) Q M0 := by
  have inner : ∀ b, b < 6 → ∀ (B : Int32 → Mem → Prop), (∀ M1, look M0 M1 → TL M1 (tlR g n E rr c b (tlB g n E rr c mn b) (mn b)) → B (nI (b + 1)) M1) → ∀ m r M, r + m = mn b → look M0 M → TL M (tlR g n E rr c b (tlB g n E rr c mn b) r) → w_X8_tallyMatches_28 (nI c) Q B (m + 1) (nI b) b (nI r) M := by
    intro b hb B hBB m
    have hm8 := (hB b hb).2.1
    induction m with
    | zero =>
      intro r M hr l hT
      have : r = mn b := by omega
      subst this
      rw [w_X8_tallyMatches_28, (l.rb (hB b hb)).1, if_pos (by rw [nI_leI (by omega) (by omega)]; omega), nI_1]
      exact hBB M l hT
    | succ m ih =>
      intro r M hr l hT
      rw [w_X8_tallyMatches_28, (l.rb (hB b hb)).1, if_neg (by rw [nI_leI (by omega) (by omega)]; omega), nI_clamp (n := r) (by omega), nI_1, nI_clamp (n := c) (by omega)]
      refine ⟨vpT (by omega) (by omega), c8_isMatch hC l (hB b hb) (by omega) (fun h M1 f1 => ?_) (fun h M1 f1 => ?_)⟩
      · rw [if_neg (by decide)]
        have l1 := l.tr (l19 f1)
        refine ⟨vpT (by omega) (by omega), vpT (by omega) (by omega), ?_⟩
        rw [(l1.rb (hB b hb)).2.2.1 r c (by omega) hc]
        refine c7_note (hT.kp (f1.1 _ (by simp))) (fun M2 f2 hT2 => ?_)
        refine ih (r + 1) M2 (by omega) (l1.tr (l28 f2)) ?_
        rw [show tlR g n E rr c b (tlB g n E rr c mn b) (r + 1) = tl1 (tlR g n E rr c b (tlB g n E rr c mn b) r) (rr (32 * b + 4 * r + c)) from if_pos h]
        exact hT2
      · rw [if_pos rfl]
        refine ih (r + 1) M1 (by omega) (l.tr (l19 f1)) ?_
        rw [show tlR g n E rr c b (tlB g n E rr c mn b) (r + 1) = tlR g n E rr c b (tlB g n E rr c mn b) r from if_neg h]
        exact hT.kp (f1.1 _ (by simp))
  have outer : ∀ m b M, b + m = 6 → look M0 M → TL M (tlB g n E rr c mn b) → w_X8_tallyMatches_9 (nI c) Q (m + 1) (nI b) M := by
    intro m
    induction m with
    | zero =>
      intro b M hb l hT
      have : b = 6 := by omega
      subst this
      rw [w_X8_tallyMatches_9, if_pos (by decide)]
      exact hQ M l hT
    | succ m ih =>
      intro b M hb l hT
      rw [w_X8_tallyMatches_9, if_neg (by rw [nI_lel (by omega) (by omega)]; omega), nI_clamp (by omega)]
      have h := inner b (by omega) (fun x2 M => w_X8_tallyMatches_9 (nI c) Q (m + 1) x2 M) (fun M1 l1 hT1 => ih (b + 1) M1 (by omega) l1 hT1) (mn b) 0 M (by omega) l hT
      exact ⟨vpT (by omega) (by omega), mn b + 1, h⟩
  unfold w_X8_tallyMatches w_X7_clear
  intro M1 e1
  rw [mu_of0 M0, mu_mr, mu_mr, mu_mr] at e1
  have f1 : onl M0 M1 [28] := by rw [e1]; exact onl.mr _ (by simp)
  refine ⟨7, outer 6 0 M1 rfl (l28 f1) ⟨?_, ?_, ?_, ?_⟩⟩
  · rw [e1, mr_at]; simp [upd]; rfl
  · rw [e1, mr_at]; simp [upd]; rfl
  · rw [e1, mr_at]; simp [upd]; rfl
  · rw [e1, mr_at]; simp [upd]; rfl
def lkT (ch st : Nat → Int32) (mn : Nat → Nat) : Nat → Int32
  | 0 => 0
  | b + 1 => if ruO (ch b) = 2 then lkT ch st mn b + nI (mn b) else if ruO (ch b) = 1 then (if st b = 0 then lkT ch st mn b else lkT ch st mn b + nI (mn b)) else lkT ch st mn b
theorem c8_countRowsToRead {M0 : Mem} {ch st : Nat → Int32} {mn : Nat → Nat} {rr kn : Nat → Int32} {c : Nat} (hc : c < 4) (h25 : ∀ b, b < 6 → M0.1 (25, 0, 0, 0) b = ch b) (hB : ∀ b, b < 6 → RB M0 0 b rr kn (mn b)) (hnd : ∀ b, b < 6 → ndF kn (4 * b + c)) (hst : ∀ b, b < 6 → st b = stI kn (anF rr kn b c (mn b)) (4 * b + c)) {Q : Int32 → Mem → Prop} (hQ : ∀ M1, look M0 M1 → Q (lkT ch st mn 6) M1) : w_X8_countRowsToRead (nI c) Q M0 := by
  have loop : ∀ m b M, b + m = 6 → look M0 M → M.1 (25, 0, 0, 0) = M0.1 (25, 0, 0, 0) → w_X8_countRowsToRead_4 (nI c) Q (m + 1) (lkT ch st mn b) (nI b) M := by
    intro m
    induction m with
    | zero =>
      intro b M hb l h
      have : b = 6 := by omega
      subst this
      rw [w_X8_countRowsToRead_4, if_pos (by decide)]
      exact hQ M l
    | succ m ih =>
      intro b M hb l h
      rw [w_X8_countRowsToRead_4, if_neg (by rw [nI_lel (by omega) (by omega)]; omega), nI_clamp (by omega), nI_1, h, h25 b (by omega)]
      refine ⟨vpT (by omega) (by omega), c8_rulingOf ?_⟩
      have h3 : ∀ M1, look M0 M1 → M1.1 (3, 0, b, 0) 0 = nI (mn b) := fun M1 l1 => (l1.rb (hB b (by omega))).1
      by_cases z : ruO (ch b) = 2
      · rw [if_pos z, h3 M l]
        have := ih (b + 1) M (by omega) l h
        rw [show lkT ch st mn (b + 1) = lkT ch st mn b + nI (mn b) from if_pos z] at this
        exact ⟨vpT (by omega) (by omega), fun x ex => by rw [ex]; exact this⟩
      rw [if_neg z]
      by_cases y : ruO (ch b) = 1
      · rw [if_pos y]
        refine ⟨vpT (by omega) (by omega), c0_isStale hc (l.rb (hB b (by omega))) (hnd b (by omega)) (fun r M1 g0 g1 hf hR1 => ?_)⟩
        have er := stI_of g0 g1
        rw [← hst b (by omega)] at er
        have l1 := l.tr hf.look
        have k1 : M1.1 (25, 0, 0, 0) = M0.1 (25, 0, 0, 0) := by rw [hf.knd (by omega) (by omega) (by omega)]; exact h
        have := ih (b + 1) M1 (by omega) l1 k1
        by_cases x : r = 0
        · rw [if_pos x]
          rw [show lkT ch st mn (b + 1) = lkT ch st mn b from by show (if _ then _ else _) = _; rw [if_neg z, if_pos y, if_pos (by rw [← er]; exact x)]] at this
          exact this
        · rw [if_neg x, h3 M1 l1]
          rw [show lkT ch st mn (b + 1) = lkT ch st mn b + nI (mn b) from by show (if _ then _ else _) = _; rw [if_neg z, if_pos y, if_neg (by rw [← er]; exact x)]] at this
          exact ⟨vpT (by omega) (by omega), fun x ex => by rw [ex]; exact this⟩
      · rw [if_neg y]
        have := ih (b + 1) M (by omega) l h
        rw [show lkT ch st mn (b + 1) = lkT ch st mn b from by show (if _ then _ else _) = _; rw [if_neg z, if_neg y]] at this
        exact this
  exact ⟨7, loop 6 0 M0 rfl look.rf rfl⟩
abbrev toK : List Nat := [33, 40, 41, 42, 43, 44]
theorem to_look {M M1 : Mem} (h : onl M M1 toK) : look M M1 := onl.look h (by simp)
theorem c9_total {g : Nat → Int32} {n : Nat} {E : Nat → Nat} {M0 : Mem} (hC : RC M0 g n E) {v : Int32} (hv : OC g n v) {mn : Nat → Nat} (hm8 : ∀ b, b < 6 → mn b ≤ 8) (h31 : ∀ b, b < 6 → M0.1 (31, 0, 0, 0) b = nI (mn b)) (hok : ∀ b, b < 6 → ∀ c, c < 4 → okF (M0.1 (32, 0, 0, 0)) (4 * b + c)) {c : Nat} (hc : c < 4) {st : Nat → Int32} (hst : ∀ b, b < 6 → st b = stI (M0.1 (32, 0, 0, 0)) (anF (M0.1 (30, 0, 0, 0)) (M0.1 (32, 0, 0, 0)) b c (mn b)) (4 * b + c)) {a2 : Int32} {Q : Int32 → Mem → Prop} (hQ : ∀ M1, onl M0 M1 toK → Q (if a2 = 0 then (tlB g n E (M0.1 (30, 0, 0, 0)) c mn 6).1 else if a2 = 1 then (tlB g n E (M0.1 (30, 0, 0, 0)) c mn 6).2.1 else if a2 = 2 then (tlB g n E (M0.1 (30, 0, 0, 0)) c mn 6).2.2.1 else if a2 = 3 then (tlB g n E (M0.1 (30, 0, 0, 0)) c mn 6).2.2.2 else lkT (fun b => chM g n E M0 b v) st mn 6) M1) : ∃ k0, w_X9_total_53 (nI c) a2 Q k0 (-2000000) (-2000000) 0 0 0 0 M0 := by
  obtain ⟨rr, hrr⟩ : ∃ rr, M0.1 (30, 0, 0, 0) = rr := ⟨_, rfl⟩
  rw [hrr] at hQ
  have rows : ∀ b, b < 6 → ∀ (B53 : Int32 → Int32 → Int32 → Int32 → Int32 → Int32 → Mem → Prop) (x7 : Int32) (t0 : quad), (∀ M1, onl M0 M1 toK → B53 (tlR g n E rr c b t0 (mn b)).1 (tlR g n E rr c b t0 (mn b)).2.1 (tlR g n E rr c b t0 (mn b)).2.2.1 (tlR g n E rr c b t0 (mn b)).2.2.2 x7 (nI (b + 1)) M1) → ∀ m r M, r + m = mn b → onl M0 M toK → w_X9_total_109 (nI c) a2 Q B53 (m + 1) (tlR g n E rr c b t0 r).1 (tlR g n E rr c b t0 r).2.1 (tlR g n E rr c b t0 r).2.2.1 (tlR g n E rr c b t0 r).2.2.2 x7 (nI b) (nI r) M := by
    intro b hb B53 x7 t0 hB m
    have hm8b := hm8 b hb
    induction m with
    | zero =>
      intro r M hr f
      have : r = mn b := by omega
      subst this
      rw [w_X9_total_109, nI_clamp (n := b) (by omega), f.1 (31, 0, 0, 0) (by simp), h31 b hb, if_pos (by rw [nI_leI (by omega) (by omega)]; omega), nI_1]
      exact ⟨vpT (by omega) (by omega), hB M f⟩
    | succ m ih =>
      intro r M hr f
      rw [w_X9_total_109, nI_clamp (n := b) (by omega), f.1 (31, 0, 0, 0) (by simp), h31 b hb, if_neg (by rw [nI_leI (by omega) (by omega)]; omega), nI_1]
      have hC1 : RC M g n E := hC.kp (fun i h1 => f.1 i (by simp; omega))
      refine ⟨vpT (by omega) (by omega), c9_truthOfRow hC1 hb (by omega) (fun M1 f1 => ?_)⟩
      have f2 : onl M0 M1 toK := f.tr (f1.sub (by simp))
      rw [f.1 (30, 0, 0, 0) (by simp), hrr]
      have nxt := ih (r + 1) M1 (by omega) f2
      obtain ⟨s, hs⟩ : ∃ s, tlR g n E rr c b t0 r = s := ⟨_, rfl⟩
      rw [hs]
      by_cases t : ev g n E (rwo rr b r) 0 = 1
      · rw [if_pos t]
        refine c9_at hb (by omega) hc ?_
        rw [f2.1 (30, 0, 0, 0) (by simp), hrr]
        obtain ⟨w, hw⟩ : ∃ w, rr (32 * b + 4 * r + c) = w := ⟨_, rfl⟩
        rw [show tlR g n E rr c b t0 (r + 1) = tl1 s w from by rw [← hs, ← hw]; exact if_pos t] at nxt
        rw [hw]
        unfold tl1 at nxt
        by_cases e : w = 1000
        · rw [if_pos e] at nxt ⊢
          exact nxt
        rw [if_neg e] at nxt ⊢
        dsimp only at nxt
        unfold lo0 hi0 at nxt
        by_cases z : s.1 = -2000000
        · rw [if_pos z] at nxt ⊢
          by_cases y : s.2.1 = -2000000
          · rw [if_pos y] at nxt ⊢
            exact fun x ex => by rw [ex]; exact nxt
          rw [if_neg y] at nxt ⊢
          by_cases x : s.2.1 < w
          · rw [if_pos x] at nxt
            rw [if_neg (i32_nle.mpr x)]
            exact fun x ex => by rw [ex]; exact nxt
          · rw [if_neg x] at nxt
            rw [if_pos (i32_nlt.mp x)]
            exact fun x ex => by rw [ex]; exact nxt
        rw [if_neg z] at nxt ⊢
        by_cases q : w < s.1
        · rw [if_pos q] at nxt
          rw [if_neg (i32_nle.mpr q)]
          by_cases y : s.2.1 = -2000000
          · rw [if_pos y] at nxt ⊢
            exact fun x ex => by rw [ex]; exact nxt
          rw [if_neg y] at nxt ⊢
          by_cases x : s.2.1 < w
          · rw [if_pos x] at nxt
            rw [if_neg (i32_nle.mpr x)]
            exact fun x ex => by rw [ex]; exact nxt
          · rw [if_neg x] at nxt
            rw [if_pos (i32_nlt.mp x)]
            exact fun x ex => by rw [ex]; exact nxt
        · rw [if_neg q] at nxt
          rw [if_pos (i32_nlt.mp q)]
          by_cases y : s.2.1 = -2000000
          · rw [if_pos y] at nxt ⊢
            exact fun x ex => by rw [ex]; exact nxt
          rw [if_neg y] at nxt ⊢
          by_cases x : s.2.1 < w
          · rw [if_pos x] at nxt
            rw [if_neg (i32_nle.mpr x)]
            exact fun x ex => by rw [ex]; exact nxt
          · rw [if_neg x] at nxt
            rw [if_pos (i32_nlt.mp x)]
            exact fun x ex => by rw [ex]; exact nxt
      · rw [if_neg t]
        rw [show tlR g n E rr c b t0 (r + 1) = s from by rw [← hs]; exact if_neg t] at nxt
        exact nxt
  have outer : ∀ m b M, b + m = 6 → onl M0 M toK → w_X9_total_53 (nI c) a2 Q (m + 1) (tlB g n E rr c mn b).1 (tlB g n E rr c mn b).2.1 (tlB g n E rr c mn b).2.2.1 (tlB g n E rr c mn b).2.2.2 (lkT (fun b => chM g n E M0 b v) st mn b) (nI b) M := by
    intro m
    induction m with
    | zero =>
      intro b M hb f
      have : b = 6 := by omega
      subst this
      rw [w_X9_total_53, if_pos (by decide)]
      have h := hQ M f
      by_cases e0 : a2 = 0
      · rw [if_pos e0] at h ⊢; exact h
      rw [if_neg e0] at h ⊢
      by_cases e1 : a2 = 1
      · rw [if_pos e1] at h ⊢; exact h
      rw [if_neg e1] at h ⊢
      by_cases e2 : a2 = 2
      · rw [if_pos e2] at h ⊢; exact h
      rw [if_neg e2] at h ⊢
      by_cases e3 : a2 = 3
      · rw [if_pos e3] at h ⊢; exact h
      rw [if_neg e3] at h ⊢
      exact h
    | succ m ih =>
      intro b M hb f
      rw [w_X9_total_53, if_neg (by rw [nI_lel (by omega) (by omega)]; omega)]
      have hC1 : RC M g n E := hC.kp (fun i h1 => f.1 i (by simp; omega))
      refine c9_verdictOf hC1 hv (by omega) (by rw [f.1 _ (by simp)]; exact hok b (by omega)) (fun M1 f1 => ?_)
      have f2 : onl M0 M1 toK := f.tr (f1.sub (by simp))
      have ech : chM g n E M b v = chM g n E M0 b v := chM_kp (fun i hi => f.1 i (by simp; omega))
      rw [ech, nI_clamp (n := b) (by omega)]
      have go : ∀ x7 M2, onl M0 M2 toK → x7 = lkT (fun b => chM g n E M0 b v) st mn (b + 1) → ∃ k0, w_X9_total_109 (nI c) a2 Q (fun x3 x4 x5 x6 x7 x8 M => w_X9_total_53 (nI c) a2 Q (m + 1) x3 x4 x5 x6 x7 x8 M) k0 (tlB g n E rr c mn b).1 (tlB g n E rr c mn b).2.1 (tlB g n E rr c mn b).2.2.1 (tlB g n E rr c mn b).2.2.2 x7 (nI b) 0 M2 := by
        intro x7 M2 f3 h7
        have h := rows b (by omega) (fun x3 x4 x5 x6 x7 x8 M => w_X9_total_53 (nI c) a2 Q (m + 1) x3 x4 x5 x6 x7 x8 M) x7 (tlB g n E rr c mn b) (fun M3 f4 => by rw [h7]; exact ih (b + 1) M3 (by omega) f4) (mn b) 0 M2 (by omega) f3
        exact ⟨mn b + 1, h⟩
      by_cases z : ruO (chM g n E M0 b v) = 2
      · rw [if_pos z, f2.1 (31, 0, 0, 0) (by simp), h31 b (by omega)]
        exact ⟨vpT (by omega) (by omega), fun x7 e7 => go x7 M1 f2 (by rw [e7]; exact (if_pos z).symm)⟩
      rw [if_neg z]
      by_cases y : ruO (chM g n E M0 b v) = 1
      · rw [if_pos y]
        refine c9_isStale (by omega) hc (hm8 b (by omega)) (by rw [f2.1 _ (by simp)]; exact h31 b (by omega)) (by rw [f2.1 _ (by simp)]; exact hok b (by omega) c hc) (fun r R33 g0 g1 => ?_)
        rw [f2.1 (30, 0, 0, 0) (by simp), f2.1 (32, 0, 0, 0) (by simp)] at g1
        have er := stI_of g0 g1
        rw [← hst b (by omega)] at er
        have f3 : onl M0 (mr M1 (33, 0, 0, 0) R33) toK := f2.tr (onl.mr _ (by simp))
        by_cases x : r = 0
        · rw [if_pos x]
          refine fun x7 e7 => go x7 _ f3 ?_
          rw [e7, Int32.add_zero]
          show _ = (if _ then _ else _)
          rw [if_neg z, if_pos y, if_pos (by rw [← er]; exact x)]
        · rw [if_neg x, f3.1 (31, 0, 0, 0) (by simp), h31 b (by omega)]
          refine ⟨vpT (by omega) (by omega), fun x7 e7 => go x7 _ f3 ?_⟩
          rw [e7]
          show _ = (if _ then _ else _)
          rw [if_neg z, if_pos y, if_neg (by rw [← er]; exact x)]
      · rw [if_neg y]
        refine fun x7 e7 => go x7 M1 f2 ?_
        rw [e7, Int32.add_zero]
        show _ = (if _ then _ else _)
        rw [if_neg z, if_neg y]
  have h := outer 6 0 M0 rfl onl.rf
  exact ⟨7, h⟩
/-- total -/
theorem o_total {a1 a2 : Int32} {M : Mem} (hR : Rel M) {Q : Int32 → Mem → Prop} (hQ : ∀ r M1, OPK (w_X9_total a1 a2) M r M1 → Q r M1) : w_X8_total a1 a2 Q M := by
  have hR0 := hR
  obtain ⟨⟨mn, hS⟩, hI, n, hn, h29, hq⟩ := hR
  have h31 : ∀ b, b < 6 → M.1 (31, 0, 0, 0) b = nI (mn b) := fun b hb => (hS b hb).1
  have hB : ∀ b, b < 6 → RB M 0 b (M.1 (30, 0, 0, 0)) (M.1 (32, 0, 0, 0)) (mn b) := fun b hb => (hS b hb).2.1
  have hm8 : ∀ b, b < 6 → mn b ≤ 8 := fun b hb => (hB b hb).2.1
  rcases x4 a1 with h | ⟨c, hc, rfl⟩
  · refine c8_isColumn0 h ?_
    rw [if_pos rfl]
    refine hQ _ _ (OPK.same hR0 fun Q q => c9_isColumn0 h ?_)
    rw [if_pos rfl]
    exact q
  refine c8_isColumn hc ?_
  rw [if_neg (by decide)]
  rcases xn a2 (n := 5) (by omega) with h | ⟨w, hw, e⟩
  · have out : Q (-3000002) M := by
      refine hQ _ _ (OPK.same hR0 fun Q q => c9_isColumn hc ?_)
      rw [if_neg (by decide)]
      refine c9_in0 (h.imp id (lt_of_le_s (by decide))) ?_
      rw [if_pos rfl]
      exact q
    by_cases h0 : a2 < 0
    · rw [if_pos h0]; exact out
    · rw [if_neg h0, if_neg (by rw [i32_nle]; exact lt_of_le_s (by decide) (h.resolve_left h0))]
      exact out
  have n0 : ¬ a2 < 0 := by rw [e]; exact nI_nn (by omega)
  have l4 : a2 ≤ 4 := by rw [e, nI_ler (by omega) (by omega)]; omega
  rw [if_neg n0, if_pos l4]
  have pre : ∀ {Q : Int32 → Mem → Prop} {M1 : Mem}, (w_X9_read  (fun (r23 : Int32) (M23 : Mem) => (if r23 = (-2000000 : Int32) then (∃ k0 : Nat, w_X9_total_53 (nI c) a2 Q k0 (-2000000 : Int32) (-2000000 : Int32) (0 : Int32) (0 : Int32) (0 : Int32) (0 : Int32) M23) else (Q (-3000005 : Int32) M23))) M1) → w_X9_total (nI c) a2 Q M1 := by
    intro Q M1 h
    refine c9_isColumn hc ?_
    rw [if_neg (by decide)]
    refine c9_in1 n0 (i32_nlt.mpr l4) ?_
    rw [if_neg (by decide)]
    exact h
  rcases hq.cases hn with ⟨E, hcq, hf, -⟩ | ⟨v, hv, hf, -⟩
  · refine hf _ ?_
    rw [if_pos rfl]
    obtain ⟨v, hv⟩ := OC.ex hcq.2.2.2.2.2.2.1
    obtain ⟨st, hst⟩ : ∃ st : Nat → Int32, ∀ b, st b = stI (M.1 (32, 0, 0, 0)) (anF (M.1 (30, 0, 0, 0)) (M.1 (32, 0, 0, 0)) b c (mn b)) (4 * b + c) := ⟨_, fun b => rfl⟩
    have fin : ∀ M1 x, look M M1 → x = (if a2 = 0 then (tlB (M.1 (34, 0, 0, 0)) n E (M.1 (30, 0, 0, 0)) c mn 6).1 else if a2 = 1 then (tlB (M.1 (34, 0, 0, 0)) n E (M.1 (30, 0, 0, 0)) c mn 6).2.1 else if a2 = 2 then (tlB (M.1 (34, 0, 0, 0)) n E (M.1 (30, 0, 0, 0)) c mn 6).2.2.1 else if a2 = 3 then (tlB (M.1 (34, 0, 0, 0)) n E (M.1 (30, 0, 0, 0)) c mn 6).2.2.2 else lkT (fun b => chM (M.1 (34, 0, 0, 0)) n E M b v) st mn 6) → Q x M1 := by
      intro M1 x l1 ex
      have g29 : M1.1 (29, 0, 0, 0) 4 = nI n := by rw [l1 _ (by simp)]; exact h29
      have g34 : M1.1 (34, 0, 0, 0) = M.1 (34, 0, 0, 0) := l1 _ (by simp)
      refine hQ _ _ ⟨l1 _ (by simp), fun Q q => pre (c9_readE hn hcq.2.2.2.2.1 hcq.2.2.2.2.2.1 g29 g34 (fun M2 f2 rr => ?_))⟩
      rw [if_pos rfl]
      have l2 : look M M2 := l1.tr (rd_look f2)
      have hrc : RC M2 (M.1 (34, 0, 0, 0)) n E := hcq.rc g29 g34 f2 rr
      have e30 : M2.1 (30, 0, 0, 0) = M.1 (30, 0, 0, 0) := l2 _ (by simp)
      have e32 : M2.1 (32, 0, 0, 0) = M.1 (32, 0, 0, 0) := l2 _ (by simp)
      refine c9_total hrc hv hm8 (fun b hb => by rw [l2 (31, 0, 0, 0) (by simp)]; exact h31 b hb) (fun b hb => by rw [e32]; exact (hS b hb).2.2.ok) hc (st := st) (fun b hb => by rw [e30, e32]; exact hst b) (fun M3 f3 => ?_)
      have ech : (fun b => chM (M.1 (34, 0, 0, 0)) n E M2 b v) = (fun b => chM (M.1 (34, 0, 0, 0)) n E M b v) := funext fun b => chM_look l2
      rw [ech, e30, ← ex]
      exact q M3 (by rw [f3.1 _ (by simp), f2.1 _ (by simp)]) (hR0.look (l2.tr (to_look f3)))
    by_cases e4 : a2 = 4
    · rw [if_pos e4]
      refine c8_weighBlocks hcq hv hB h31 (fun M1 l1 h25 => ?_)
      refine c8_countRowsToRead hc (ch := fun b => chM (M.1 (34, 0, 0, 0)) n E M b v) (st := st) (mn := mn) h25 (fun b hb => l1.rb (hB b hb)) (fun b hb => ((hS b hb).2.2.2 c hc).2) (fun b hb => hst b) (fun M2 l2 => fin M2 _ (l1.tr l2) ?_)
      rw [if_neg (show ¬ a2 = 0 by rw [e4]; decide), if_neg (show ¬ a2 = 1 by rw [e4]; decide), if_neg (show ¬ a2 = 2 by rw [e4]; decide), if_neg (show ¬ a2 = 3 by rw [e4]; decide)]
    · rw [if_neg e4]
      refine c8_tallyMatches hcq hB hc (fun M1 l1 hT => ?_)
      obtain ⟨t0, t1, t2, t3⟩ := hT
      by_cases e0 : a2 = 0
      · rw [if_pos e0]; exact fin M1 _ l1 (by rw [if_pos e0]; exact t0)
      rw [if_neg e0]
      by_cases e1 : a2 = 1
      · rw [if_pos e1]; exact fin M1 _ l1 (by rw [if_neg e0, if_pos e1]; exact t1)
      rw [if_neg e1]
      by_cases e2 : a2 = 2
      · rw [if_pos e2]; exact fin M1 _ l1 (by rw [if_neg e0, if_neg e1, if_pos e2]; exact t2)
      rw [if_neg e2]
      have e3 : a2 = 3 := by
        have : w = 0 ∨ w = 1 ∨ w = 2 ∨ w = 3 ∨ w = 4 := by omega
        rcases this with h | h | h | h | h <;> subst h
        · exact absurd e e0
        · exact absurd e e1
        · exact absurd e e2
        · exact e
        · exact absurd e e4
      exact fin M1 _ l1 (by rw [if_neg e0, if_neg e1, if_neg e2, if_pos e3]; exact t3)
  · refine hf _ ?_
    rw [if_neg (by decide)]
    refine hQ _ _ ⟨rfl, fun Q q => pre (c9_readF hn hv h29 rfl (fun M2 f2 => ?_))⟩
    rw [if_neg (hv.nN hn)]
    exact q M2 (f2.1 _ (by simp)) (hR0.look (rd_look f2))
