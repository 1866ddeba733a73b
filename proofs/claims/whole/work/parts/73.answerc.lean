/-! the class's side of answer, of the rest -/
def ulk (g : Nat → Int32) (n : Nat) (E : Nat → Nat) (mn : Nat → Nat) (rr : Nat → Int32) (b r : Nat) : Prop := mtc g n E rr b r ∧ fst mn rr b r
def Pky (mt : Nat → Nat → Prop) (mn : Nat → Nat) (rr : Nat → Int32) (b r : Nat) (k : Int64) : Prop := ∃ b2 r2, erl mn b r b2 r2 ∧ mt b2 r2 ∧ ky4 (rwo rr b2 r2) 4 = k
theorem Pky_s {mt : Nat → Nat → Prop} {mn : Nat → Nat} {rr : Nat → Int32} {b r : Nat} (k : Int64) : Pky mt mn rr b (r + 1) k ↔ Pky mt mn rr b r k ∨ (mt b r ∧ ky4 (rwo rr b r) 4 = k) := by
  constructor
  · rintro ⟨b2, r2, h | h, h2, h3⟩
    · exact Or.inl ⟨b2, r2, Or.inl h, h2, h3⟩
    · rcases Nat.lt_or_ge r2 r with q | q
      · exact Or.inl ⟨b2, r2, Or.inr ⟨h.1, q⟩, h2, h3⟩
      · have e1 : r2 = r := by omega
        have e2 := h.1
        subst e1 e2
        exact Or.inr ⟨h2, h3⟩
  · rintro (⟨b2, r2, h | h, h2, h3⟩ | ⟨h2, h3⟩)
    · exact ⟨b2, r2, Or.inl h, h2, h3⟩
    · exact ⟨b2, r2, Or.inr ⟨h.1, by omega⟩, h2, h3⟩
    · exact ⟨b, r, Or.inr ⟨rfl, by omega⟩, h2, h3⟩
theorem Pky_b {mt : Nat → Nat → Prop} {mn : Nat → Nat} {rr : Nat → Int32} {b : Nat} (k : Int64) : Pky mt mn rr (b + 1) 0 k ↔ Pky mt mn rr b (mn b) k := by
  constructor
  · rintro ⟨b2, r2, h | h, h2, h3⟩
    · rcases Nat.lt_or_ge b2 b with q | q
      · exact ⟨b2, r2, Or.inl ⟨q, h.2⟩, h2, h3⟩
      · have e : b2 = b := by omega
        subst e
        exact ⟨b2, r2, Or.inr ⟨rfl, h.2⟩, h2, h3⟩
    · omega
  · rintro ⟨b2, r2, h | h, h2, h3⟩
    · exact ⟨b2, r2, Or.inl ⟨by omega, h.2⟩, h2, h3⟩
    · have e := h.1
      subst e
      exact ⟨b2, r2, Or.inl ⟨by omega, h.2⟩, h2, h3⟩
theorem KI.iff {M : Mem} {m : Nat} {P P2 : Int64 → Prop} (h : KI M m P) (h2 : ∀ k, P2 k ↔ P k) : KI M m P2 := ⟨h.1, fun k => (h2 k).trans (h.2 k)⟩
theorem KI.kp {M M1 : Mem} {m : Nat} {P : Int64 → Prop} (h : KI M m P) (h1 : M1.1 (26, 0, 0, 0) = M.1 (26, 0, 0, 0)) (h2 : M1.2 = M.2) : KI M1 m P := by
  unfold KI
  rw [h1, h2]
  exact h
/-- what a row's key says of the rows ahead of it -/
theorem key_fst {mt : Nat → Nat → Prop} {mn : Nat → Nat} {rr : Nat → Int32} (hlk : ∀ b r b2 r2, like rr b r b2 r2 → mt b r → mt b2 r2) (hent : ∀ b r c, b < 6 → r < mn b → c < 4 → ent (rr (32 * b + 4 * r + c))) {b r : Nat} (hb : b < 6) (hr : r < mn b) (hm : mt b r) : Pky mt mn rr b r (ky4 (rwo rr b r) 4) ↔ ¬ fst mn rr b r := by
  constructor
  · rintro ⟨b2, r2, h1, h2, h3⟩ hf
    have hb2 : b2 < 6 ∧ r2 < mn b2 := by
      rcases h1 with h | h
      · exact ⟨by omega, h.2⟩
      · obtain ⟨e, h⟩ := h
        subst e
        exact ⟨hb, by omega⟩
    refine hf b2 r2 h1 (fun c hc => ?_)
    exact ky4_inj (R := rwo rr b r) (R2 := rwo rr b2 r2) (fun c hc => hent b r c hb hr hc) (fun c hc => hent b2 r2 c hb2.1 hb2.2 hc) h3.symm c hc
  · intro hf
    refine Classical.byContradiction fun q => hf (fun b2 r2 h1 h2 => q ⟨b2, r2, h1, hlk _ _ _ _ h2 hm, ?_⟩)
    exact (ky4_c (R := rwo rr b r) (R2 := rwo rr b2 r2) (fun c hc => h2 c hc)).symm
theorem nte_look {M M1 : Mem} (h : ∀ i : ix, i.1 ≠ 26 → M1.1 i = M.1 i) : look M M1 := fun i hi => h i (fun e => by unfold inS at hi; omega)
theorem c8_countUnlikeMatches {g : Nat → Int32} {n : Nat} {E : Nat → Nat} {M0 : Mem} (hC : CQ M0 g n E) {rr kn : Nat → Int32} {mn : Nat → Nat} (hB : ∀ b, b < 6 → RB M0 0 b rr kn (mn b)) (hent : ∀ b r c, b < 6 → r < mn b → c < 4 → ent (rr (32 * b + 4 * r + c))) {Q : Int32 → Mem → Prop} (hQ : ∀ M1, look M0 M1 → Q (nI (cbN (ulk g n E mn rr) mn 6)) M1) : w_X8_countUnlikeMatches Q M0 := by
  have hlk : ∀ b r b2 r2, like rr b r b2 r2 → mtc g n E rr b r → mtc g n E rr b2 r2 := fun b r b2 r2 h hm => mtc_like hC.2.2.2.2.1 hC.2.1 hC.2.2.2.2.2.1 hC.2.2.2.2.2.2.1 h hm
  have hm8 : ∀ b, b < 6 → mn b ≤ 8 := fun b hb => (hB b hb).2.1
  have inner : ∀ b, b < 6 → ∀ (B : Int32 → Mem → Prop), (∀ M1, look M0 M1 → KI M1 (cbN (ulk g n E mn rr) mn b + crN (ulk g n E mn rr) b (mn b)) (Pky (mtc g n E rr) mn rr b (mn b)) → B (nI (b + 1)) M1) → ∀ m r M, r + m = mn b → look M0 M → KI M (cbN (ulk g n E mn rr) mn b + crN (ulk g n E mn rr) b r) (Pky (mtc g n E rr) mn rr b r) → w_X8_countUnlikeMatches_27 Q B (m + 1) (nI b) b (nI r) M := by
    intro b hb B hBB m
    have hm8b := hm8 b hb
    induction m with
    | zero =>
      intro r M hr l hK
      have : r = mn b := by omega
      subst this
      rw [w_X8_countUnlikeMatches_27, (l.rb (hB b hb)).1, if_pos (by rw [nI_leI (by omega) (by omega)]; omega), nI_1]
      exact hBB M l hK
    | succ m ih =>
      intro r M hr l hK
      rw [w_X8_countUnlikeMatches_27, (l.rb (hB b hb)).1, if_neg (by rw [nI_leI (by omega) (by omega)]; omega), nI_clamp (by omega), nI_1]
      have hcb := cbN_le (ulk g n E mn rr) hm8 b (by omega)
      have hcr := crN_le (ulk g n E mn rr) b r
      refine ⟨vpT (by omega) (by omega), c8_isMatch hC l (hB b hb) (by omega) (fun h M1 f1 => ?_) (fun h M1 f1 => ?_)⟩
      · rw [if_neg (by decide)]
        refine ⟨vpT (by omega) (by omega), ?_⟩
        have l1 := l.tr (l19 f1)
        have hK1 := hK.kp (f1.1 (26, 0, 0, 0) (by simp)) f1.2
        have ek : ky4 (M1.1 (5, 0, b, r)) 4 = ky4 (rwo rr b r) 4 := ky4_c (fun c hc => (l1.rb (hB b hb)).2.2.1 r c (by omega) hc)
        have kf := key_fst hlk hent hb (by omega) h
        refine c4_note (by omega) hK1 (fun hp => ?_) (fun hp M2 f2 hK2 => ?_)
        · rw [ek] at hp
          refine ih (r + 1) M1 (by omega) l1 ?_
          have hu : ¬ ulk g n E mn rr b r := fun q => kf.mp hp q.2
          rw [show crN (ulk g n E mn rr) b (r + 1) = crN (ulk g n E mn rr) b r from by show crN (ulk g n E mn rr) b r + one (ulk g n E mn rr b r) = _; rw [one_f hu, Nat.add_zero]]
          refine hK1.iff (fun k => ?_)
          rw [Pky_s]
          refine ⟨fun q => q.elim id (fun q => ?_), Or.inl⟩
          rw [← q.2]; exact hp
        · rw [ek] at hp hK2
          refine ih (r + 1) M2 (by omega) (l1.tr (nte_look f2)) ?_
          have hu : ulk g n E mn rr b r := ⟨h, Classical.byContradiction fun q => hp (kf.mpr q)⟩
          rw [show crN (ulk g n E mn rr) b (r + 1) = crN (ulk g n E mn rr) b r + 1 from by show crN (ulk g n E mn rr) b r + one (ulk g n E mn rr b r) = _; rw [one_t hu], ← Nat.add_assoc]
          refine hK2.iff (fun k => ?_)
          rw [Pky_s]
          exact ⟨fun q => q.imp id (fun q => q.2.symm), fun q => q.imp id (fun q => ⟨h, q.symm⟩)⟩
      · rw [if_pos rfl]
        refine ih (r + 1) M1 (by omega) (l.tr (l19 f1)) ?_
        have hu : ¬ ulk g n E mn rr b r := fun q => h q.1
        rw [show crN (ulk g n E mn rr) b (r + 1) = crN (ulk g n E mn rr) b r from by show crN (ulk g n E mn rr) b r + one (ulk g n E mn rr b r) = _; rw [one_f hu, Nat.add_zero]]
        refine (hK.kp (f1.1 (26, 0, 0, 0) (by simp)) f1.2).iff (fun k => ?_)
        rw [Pky_s]
        exact ⟨fun q => q.elim id (fun q => absurd q.1 h), Or.inl⟩
  have outer : ∀ m b M, b + m = 6 → look M0 M → KI M (cbN (ulk g n E mn rr) mn b) (Pky (mtc g n E rr) mn rr b 0) → w_X8_countUnlikeMatches_9 Q (m + 1) (nI b) M := by
    intro m
    induction m with
    | zero =>
      intro b M hb l hK
      have : b = 6 := by omega
      subst this
      rw [w_X8_countUnlikeMatches_9, if_pos (by decide), hK.1]
      exact hQ M l
    | succ m ih =>
      intro b M hb l hK
      rw [w_X8_countUnlikeMatches_9, if_neg (by rw [nI_lel (by omega) (by omega)]; omega), nI_clamp (by omega)]
      have h := inner b (by omega) (fun x1 M => w_X8_countUnlikeMatches_9 Q (m + 1) x1 M) (fun M1 l1 hK1 => ih (b + 1) M1 (by omega) l1 (KI.iff (m := cbN (ulk g n E mn rr) mn (b + 1)) hK1 (fun k => Pky_b k))) (mn b) 0 M (by omega) l hK
      exact ⟨vpT (by omega) (by omega), mn b + 1, h⟩
  unfold w_X8_countUnlikeMatches w_X4_clear
  refine ⟨7, outer 6 0 _ rfl (onl.look (onl.mr (l := [26]) _ (by simp)) (by simp)) ⟨by rw [mu_row, upd_at]; rfl, fun k => ⟨fun h => ?_, fun h => ?_⟩⟩⟩
  · obtain ⟨b2, r2, h1, -⟩ := h
    rcases h1 with h1 | h1 <;> omega
  · obtain ⟨i, h1, -⟩ := h
    exact absurd h1 (Nat.not_lt_zero i)
/-- the chances of all blocks -/
theorem c8_weighBlocks {g : Nat → Int32} {n : Nat} {E : Nat → Nat} {M0 : Mem} (hC : CQ M0 g n E) {v : Int32} (hv : OC g n v) {mn : Nat → Nat} (hB : ∀ b, b < 6 → RB M0 0 b (M0.1 (30, 0, 0, 0)) (M0.1 (32, 0, 0, 0)) (mn b)) (h31 : ∀ b, b < 6 → M0.1 (31, 0, 0, 0) b = nI (mn b)) {Q : Mem → Prop} (hQ : ∀ M1, look M0 M1 → (∀ b, b < 6 → M1.1 (25, 0, 0, 0) b = chM g n E M0 b v) → Q M1) : w_X8_weighBlocks Q M0 := by
  have loop : ∀ m b M, b + m = 6 → look M0 M → (∀ j, j < b → M.1 (25, 0, 0, 0) j = chM g n E M0 j v) → w_X8_weighBlocks_2 Q (m + 1) (nI b) M := by
    intro m
    induction m with
    | zero =>
      intro b M hb l h
      have : b = 6 := by omega
      subst this
      rw [w_X8_weighBlocks_2, if_pos (by decide)]
      exact hQ M l h
    | succ m ih =>
      intro b M hb l h
      rw [w_X8_weighBlocks_2, if_neg (by rw [nI_lel (by omega) (by omega)]; omega), nI_clamp (by omega), nI_1]
      have hb' := l.rb (hB b (by omega))
      rw [← l (30, 0, 0, 0) (by simp), ← l (32, 0, 0, 0) (by simp)] at hb'
      refine ⟨vpT (by omega) (by omega), c8_chancesIn (l.cq hC) hv hb' (by rw [l (31, 0, 0, 0) (by simp)]; exact h31 b (by omega)) (fun M1 f1 => ⟨vpT (by omega) (by omega), ?_⟩)⟩
      refine ih (b + 1) _ (by omega) ((l.tr (ci_look f1)).tr (onl.look (onl.mr (l := [25]) _ (by simp)) (by simp))) (fun j hj => ?_)
      rw [mu_row]
      by_cases e : j = b
      · subst e
        rw [upd_at, chM_look l]
      · rw [upd_ne _ _ e, f1.1 _ (by simp)]
        exact h j (by omega)
  exact ⟨7, loop 6 0 M0 rfl look.rf (fun j hj => absurd hj (by omega))⟩
def lkS (ch : Nat → Int32) (mn : Nat → Nat) : Nat → Int32
  | 0 => 0
  | b + 1 => if ruO (ch b) = 2 then lkS ch mn b + nI (mn b) else lkS ch mn b
def blS (ch : Nat → Int32) (w : Int32) : Nat → Int32
  | 0 => 0
  | b + 1 => if ruO (ch b) = w then blS ch w b ||| ((1 : Int32) <<< (nI b &&& 31)) else blS ch w b
theorem c8_countScannedRows {M : Mem} {ch : Nat → Int32} {mn : Nat → Nat} (h25 : ∀ b, b < 6 → M.1 (25, 0, 0, 0) b = ch b) (h3 : ∀ b, b < 6 → M.1 (3, 0, b, 0) 0 = nI (mn b)) {Q : Int32 → Mem → Prop} (hQ : Q (lkS ch mn 6) M) : w_X8_countScannedRows Q M := by
  have loop : ∀ m b, b + m = 6 → w_X8_countScannedRows_4 Q (m + 1) (lkS ch mn b) (nI b) M := by
    intro m
    induction m with
    | zero =>
      intro b hb
      have : b = 6 := by omega
      subst this
      rw [w_X8_countScannedRows_4, if_pos (by decide)]
      exact hQ
    | succ m ih =>
      intro b hb
      rw [w_X8_countScannedRows_4, if_neg (by rw [nI_lel (by omega) (by omega)]; omega), nI_clamp (by omega), nI_1, h25 b (by omega)]
      refine ⟨vpT (by omega) (by omega), c8_rulingOf ?_⟩
      have := ih (b + 1) (by omega)
      by_cases z : ruO (ch b) = 2
      · rw [if_pos z]
        rw [show lkS ch mn (b + 1) = lkS ch mn b + nI (mn b) from if_pos z] at this
        exact ⟨vpT (by omega) (by omega), fun x ex => by rw [ex, h3 b (by omega)]; exact this⟩
      · rw [if_neg z]
        rw [show lkS ch mn (b + 1) = lkS ch mn b from if_neg z] at this
        exact this
  exact ⟨7, loop 6 0 rfl⟩
theorem c8_blocksRuled {M : Mem} {ch : Nat → Int32} {w : Int32} (h25 : ∀ b, b < 6 → M.1 (25, 0, 0, 0) b = ch b) {Q : Int32 → Mem → Prop} (hQ : Q (blS ch w 6) M) : w_X8_blocksRuled w Q M := by
  have loop : ∀ m b, b + m = 6 → w_X8_blocksRuled_4 w Q (m + 1) (blS ch w b) (nI b) M := by
    intro m
    induction m with
    | zero =>
      intro b hb
      have : b = 6 := by omega
      subst this
      rw [w_X8_blocksRuled_4, if_pos (by decide)]
      exact hQ
    | succ m ih =>
      intro b hb
      rw [w_X8_blocksRuled_4, if_neg (by rw [nI_lel (by omega) (by omega)]; omega), nI_clamp (by omega), nI_1, h25 b (by omega)]
      refine ⟨vpT (by omega) (by omega), c8_rulingOf ?_⟩
      have := ih (b + 1) (by omega)
      by_cases z : ruO (ch b) = w
      · rw [if_pos z]
        rw [show blS ch w (b + 1) = blS ch w b ||| ((1 : Int32) <<< (nI b &&& 31)) from if_pos z] at this
        exact fun x ex => by rw [ex]; exact this
      · rw [if_neg z]
        rw [show blS ch w (b + 1) = blS ch w b from if_neg z] at this
        exact this
  exact ⟨7, loop 6 0 rfl⟩
