/-! the reference's side of answer -/
theorem c9_isLike {M : Mem} {rr : Nat → Int32} (h30 : M.1 (30, 0, 0, 0) = rr) {b r b2 r2 : Nat} (hb : b < 6) (hr : r < 8) (hb2 : b2 < 6) (hr2 : r2 < 8) {Q : Int32 → Mem → Prop} (h1 : like rr b r b2 r2 → Q 1 M) (h0 : ¬ like rr b r b2 r2 → Q 0 M) : w_X9_isLike (nI b) (nI r) (nI b2) (nI r2) Q M := by
  have loop : ∀ m c x, c + m = 4 → ((x = 1 ∧ ∀ j, j < c → rr (32 * b + 4 * r + j) = rr (32 * b2 + 4 * r2 + j)) ∨ (x = 0 ∧ ¬ like rr b r b2 r2)) → w_X9_isLike_6 (nI b) (nI r) (nI b2) (nI r2) Q (m + 1) x (nI c) M := by
    intro m
    induction m with
    | zero =>
      intro c x hc hx
      have : c = 4 := by omega
      subst this
      rw [w_X9_isLike_6, if_pos (by decide)]
      rcases hx with ⟨e, h⟩ | ⟨e, h⟩
      · exact ⟨Or.inr e, by rw [e]; exact h1 h⟩
      · exact ⟨Or.inl e, by rw [e]; exact h0 h⟩
    | succ m ih =>
      intro c x hc hx
      rw [w_X9_isLike_6, if_neg (by rw [nI_lel (by omega) (by omega)]; omega), nI_1]
      rcases hx with ⟨e, h⟩ | ⟨e, h⟩
      · rw [if_neg (by rw [e]; decide)]
        refine c9_at hb hr (by omega) (c9_at hb2 hr2 (by omega) ?_)
        rw [h30]
        by_cases z : rr (32 * b + 4 * r + c) = rr (32 * b2 + 4 * r2 + c)
        · rw [if_pos z]
          refine ih (c + 1) 1 (by omega) (Or.inl ⟨rfl, fun j hj => ?_⟩)
          rcases Nat.lt_or_ge j c with q | q
          · exact h j q
          · have : j = c := by omega
            subst this
            exact z
        · rw [if_neg z]
          exact ih (c + 1) 0 (by omega) (Or.inr ⟨rfl, fun q => z (q c (by omega))⟩)
      · rw [if_pos e]
        exact ih (c + 1) 0 (by omega) (Or.inr ⟨rfl, h⟩)
  exact ⟨5, loop 4 0 1 rfl (Or.inl ⟨rfl, fun j hj => absurd hj (by omega)⟩)⟩
noncomputable def bI (P : Prop) : Int32 := @ite Int32 P (Classical.propDecidable P) 1 0
theorem bI_t {P : Prop} (h : P) : bI P = 1 := @if_pos P (Classical.propDecidable P) h Int32 1 0
theorem bI_f {P : Prop} (h : ¬ P) : bI P = 0 := @if_neg P (Classical.propDecidable P) h Int32 1 0
theorem bI_c {P P2 : Prop} (h : P ↔ P2) : bI P = bI P2 := by rw [propext h]
def lim (mn : Nat → Nat) (b r b2 : Nat) : Nat := if b2 < b then mn b2 else r
def Ff (mn : Nat → Nat) (rr : Nat → Int32) (b r b2 r2 : Nat) : Prop := ∀ b' r', ((b' < b2 ∧ r' < lim mn b r b') ∨ (b' = b2 ∧ r' < r2)) → ¬ like rr b r b' r'
theorem Ff_s {mn : Nat → Nat} {rr : Nat → Int32} {b r b2 r2 : Nat} : Ff mn rr b r b2 (r2 + 1) ↔ Ff mn rr b r b2 r2 ∧ ¬ like rr b r b2 r2 := by
  constructor
  · intro h
    refine ⟨fun b' r' q => h b' r' (q.imp id (fun q => ⟨q.1, by omega⟩)), h b2 r2 (Or.inr ⟨rfl, by omega⟩)⟩
  · rintro ⟨h1, h2⟩ b' r' q
    rcases q with q | q
    · exact h1 b' r' (Or.inl q)
    · rcases Nat.lt_or_ge r' r2 with z | z
      · exact h1 b' r' (Or.inr ⟨q.1, z⟩)
      · have e1 : r' = r2 := by omega
        have e2 := q.1
        subst e1 e2
        exact h2
theorem Ff_b {mn : Nat → Nat} {rr : Nat → Int32} {b r b2 : Nat} : Ff mn rr b r (b2 + 1) 0 ↔ Ff mn rr b r b2 (lim mn b r b2) := by
  constructor
  · intro h b' r' q
    rcases q with q | q
    · exact h b' r' (Or.inl ⟨by omega, q.2⟩)
    · have e := q.1
      subst e
      exact h b' r' (Or.inl ⟨by omega, q.2⟩)
  · intro h b' r' q
    rcases q with q | q
    · rcases Nat.lt_or_ge b' b2 with z | z
      · exact h b' r' (Or.inl ⟨z, q.2⟩)
      · have e : b' = b2 := by omega
        subst e
        exact h b' r' (Or.inr ⟨rfl, q.2⟩)
    · omega
theorem Ff_fst {mn : Nat → Nat} {rr : Nat → Int32} {b r : Nat} : Ff mn rr b r (b + 1) 0 ↔ fst mn rr b r := by
  unfold Ff fst erl lim
  constructor
  · intro h b' r' q
    rcases q with q | q
    · exact h b' r' (Or.inl ⟨by omega, by rw [if_pos q.1]; exact q.2⟩)
    · exact h b' r' (Or.inl ⟨by omega, by rw [if_neg (by omega)]; exact q.2⟩)
  · intro h b' r' q
    rcases q with q | q
    · by_cases z : b' < b
      · rw [if_pos z] at q
        exact h b' r' (Or.inl ⟨z, q.2⟩)
      · rw [if_neg z] at q
        exact h b' r' (Or.inr ⟨by omega, q.2⟩)
    · omega
/-- is there a like row ahead -/
theorem c9_131 {a1 : Int32} {M : Mem} {rr : Nat → Int32} {mn : Nat → Nat} (h30 : M.1 (30, 0, 0, 0) = rr) (h31 : ∀ b, b < 6 → M.1 (31, 0, 0, 0) b = nI (mn b)) (hm8 : ∀ b, b < 6 → mn b ≤ 8) {Q : Int32 → Mem → Prop} {B37 : Int32 → Int32 → Int32 → Int32 → Int32 → Mem → Prop} {B98 : Int32 → Int32 → Int32 → Int32 → Int32 → Int32 → Mem → Prop} {b r : Nat} (hb : b < 6) (hr : r < mn b) {x2 x4 x5 : Int32} {u : Nat} (hB : B98 x2 (nI (u + one (fst mn rr b r))) x4 x5 (nI b) (nI (r + 1)) M) : ∃ k0, w_X9_answer_131 a1 Q B37 B98 k0 x2 (nI u) x4 x5 (nI b) (nI r) 1 0 M := by
  have hm8b := hm8 b hb
  have l141 : ∀ (b2 : Nat) (B131 : Int32 → Int32 → Int32 → Int32 → Int32 → Int32 → Int32 → Int32 → Mem → Prop), b2 ≤ b → B131 x2 (nI u) x4 x5 (nI b) (nI r) (bI (Ff mn rr b r b2 (lim mn b r b2))) (nI (b2 + 1)) M → ∀ m r2, r2 + m = lim mn b r b2 → w_X9_answer_141 a1 Q B37 B98 B131 (m + 1) x2 (nI u) x4 x5 (nI b) (nI r) (bI (Ff mn rr b r b2 r2)) (nI b2) (nI r2) M := by
    intro b2 B131 hb2 hBB m
    have hm82 := hm8 b2 (by omega)
    have hlim : lim mn b r b2 ≤ mn b2 ∧ (b2 = b → lim mn b r b2 = r) ∧ (b2 < b → lim mn b r b2 = mn b2) := by
      unfold lim
      by_cases z : b2 < b
      · rw [if_pos z]; exact ⟨by omega, fun q => by omega, fun _ => rfl⟩
      · have e : b2 = b := by omega
        subst e
        rw [if_neg z]
        exact ⟨by omega, fun _ => rfl, fun q => absurd q z⟩
    induction m with
    | zero =>
      intro r2 hr2
      have : r2 = lim mn b r b2 := by omega
      subst this
      rw [w_X9_answer_141, nI_clamp (n := b2) (by omega), h31 b2 (by omega), nI_1]
      refine ⟨vpT (by omega) (by omega), ?_⟩
      by_cases z : b2 < b
      · rw [if_pos (by rw [nI_leI (by omega) (by omega), hlim.2.2 z]; omega)]
        exact hBB
      · have e : b2 = b := by omega
        have e2 := hlim.2.1 e
        rw [if_neg (by rw [nI_leI (by omega) (by omega), e2, e]; omega), if_neg (by rw [nI_ltI (by omega) (by omega)]; omega), if_pos (by rw [nI_leI (by omega) (by omega), e2]; omega)]
        exact hBB
    | succ m ih =>
      intro r2 hr2
      rw [w_X9_answer_141, nI_clamp (n := b2) (by omega), h31 b2 (by omega), if_neg (by rw [nI_leI (by omega) (by omega)]; omega), nI_1]
      refine ⟨vpT (by omega) (by omega), ?_⟩
      have nxt := ih (r2 + 1) (by omega)
      have body : (if bI (Ff mn rr b r b2 r2) = 0 then ((w_X9_answer_141 a1 Q B37 B98 B131 (m + 1)) x2 (nI u) x4 x5 (nI b) (nI r) (0 : Int32) (nI b2) (nI r2 + 1) M) else (w_X9_isLike (nI b) (nI r) (nI b2) (nI r2)  (fun (r181 : Int32) (M181 : Mem) => (if r181 = 0 then ((w_X9_answer_141 a1 Q B37 B98 B131 (m + 1)) x2 (nI u) x4 x5 (nI b) (nI r) (1 : Int32) (nI b2) (nI r2 + 1) M181) else ((w_X9_answer_141 a1 Q B37 B98 B131 (m + 1)) x2 (nI u) x4 x5 (nI b) (nI r) (0 : Int32) (nI b2) (nI r2 + 1) M181))) M)) := by
        rw [nI_1]
        by_cases f : Ff mn rr b r b2 r2
        · rw [bI_t f, if_neg (by decide)]
          refine c9_isLike h30 hb (by omega) (by omega) (by omega) (fun hl => ?_) (fun hl => ?_)
          · rw [if_neg (by decide)]
            rw [bI_f (fun q => (Ff_s.mp q).2 hl)] at nxt
            exact nxt
          · rw [if_pos rfl]
            rw [bI_t (Ff_s.mpr ⟨f, hl⟩)] at nxt
            exact nxt
        · rw [bI_f f, if_pos rfl]
          rw [bI_f (fun q => f (Ff_s.mp q).1)] at nxt
          exact nxt
      rw [nI_1] at body
      by_cases z : b2 < b
      · rw [if_pos (by rw [nI_ltI (by omega) (by omega)]; exact z)]
        exact body
      · have e : b2 = b := by omega
        have e2 := hlim.2.1 e
        rw [if_neg (by rw [nI_ltI (by omega) (by omega)]; exact z), if_neg (by rw [nI_leI (by omega) (by omega)]; omega)]
        exact body
  have l131 : ∀ m b2, b2 + m = b + 1 → w_X9_answer_131 a1 Q B37 B98 (m + 1) x2 (nI u) x4 x5 (nI b) (nI r) (bI (Ff mn rr b r b2 0)) (nI b2) M := by
    intro m
    induction m with
    | zero =>
      intro b2 hb2
      have : b2 = b + 1 := by omega
      subst this
      rw [w_X9_answer_131, if_pos (by rw [nI_ltI (by omega) (by omega)]; omega), nI_1]
      by_cases f : fst mn rr b r
      · rw [bI_t (Ff_fst.mpr f), if_neg (by decide)]
        rw [one_t f] at hB
        intro x ex
        rw [ex, nI_1]
        exact hB
      · rw [bI_f (fun q => f (Ff_fst.mp q)), if_pos rfl]
        rw [one_f f, Nat.add_zero] at hB
        intro x ex
        rw [ex, Int32.add_zero]
        exact hB
    | succ m ih =>
      intro b2 hb2
      rw [w_X9_answer_131, if_neg (by rw [nI_ltI (by omega) (by omega)]; omega)]
      have nxt := ih (b2 + 1) (by omega)
      rw [bI_c Ff_b] at nxt
      have h := l141 b2 (fun x2 x3 x4 x5 x6 x8 x9 x10 M => w_X9_answer_131 a1 Q B37 B98 (m + 1) x2 x3 x4 x5 x6 x8 x9 x10 M) (by omega) nxt (lim mn b r b2) 0 (by omega)
      exact ⟨_, h⟩
  have h := l131 (b + 1) 0 (by omega)
  rw [bI_t (show Ff mn rr b r 0 0 from fun b' r' q => by omega)] at h
  exact ⟨_, h⟩
theorem c9_answer {g : Nat → Int32} {n : Nat} {E : Nat → Nat} {M0 : Mem} (hC : RC M0 g n E) {v : Int32} (hv : OC g n v) {mn : Nat → Nat} (hm8 : ∀ b, b < 6 → mn b ≤ 8) (h31 : ∀ b, b < 6 → M0.1 (31, 0, 0, 0) b = nI (mn b)) (hok : ∀ b, b < 6 → ∀ c, c < 4 → okF (M0.1 (32, 0, 0, 0)) (4 * b + c)) {a1 : Int32} {Q : Int32 → Mem → Prop} (hQ : ∀ M1, onl M0 M1 moK → Q (if a1 = 0 then nI (cbN (mtc g n E (M0.1 (30, 0, 0, 0))) mn 6) else if a1 = 1 then nI (cbN (ulk g n E mn (M0.1 (30, 0, 0, 0))) mn 6) else if a1 = 2 then lkS (fun b => chM g n E M0 b v) mn 6 else blS (fun b => chM g n E M0 b v) (a1 - 3) 6) M1) : ∃ k0, w_X9_answer_37 a1 Q k0 0 0 0 0 0 M0 := by
  obtain ⟨rr, hrr⟩ : ∃ rr, M0.1 (30, 0, 0, 0) = rr := ⟨_, rfl⟩
  rw [hrr] at hQ
  have rows : ∀ b, b < 6 → ∀ (B37 : Int32 → Int32 → Int32 → Int32 → Int32 → Mem → Prop) (x4 x5 : Int32) (c0 u0 : Nat), (∀ M1, onl M0 M1 moK → B37 (nI (c0 + crN (mtc g n E rr) b (mn b))) (nI (u0 + crN (ulk g n E mn rr) b (mn b))) x4 x5 (nI (b + 1)) M1) → ∀ m r M, r + m = mn b → onl M0 M moK → w_X9_answer_98 a1 Q B37 (m + 1) (nI (c0 + crN (mtc g n E rr) b r)) (nI (u0 + crN (ulk g n E mn rr) b r)) x4 x5 (nI b) (nI r) M := by
    intro b hb B37 x4 x5 c0 u0 hB m
    have hm8b := hm8 b hb
    induction m with
    | zero =>
      intro r M hr f
      have : r = mn b := by omega
      subst this
      rw [w_X9_answer_98, nI_clamp (n := b) (by omega), f.1 (31, 0, 0, 0) (by simp), h31 b hb, if_pos (by rw [nI_leI (by omega) (by omega)]; omega), nI_1]
      exact ⟨vpT (by omega) (by omega), hB M f⟩
    | succ m ih =>
      intro r M hr f
      rw [w_X9_answer_98, nI_clamp (n := b) (by omega), f.1 (31, 0, 0, 0) (by simp), h31 b hb, if_neg (by rw [nI_leI (by omega) (by omega)]; omega), nI_1, nI_1]
      have hC1 : RC M g n E := hC.kp (fun i h1 => f.1 i (by simp; omega))
      refine ⟨vpT (by omega) (by omega), c9_truthOfRow hC1 hb (by omega) (fun M1 f1 => ?_)⟩
      have f2 : onl M0 M1 moK := f.tr (f1.sub (by simp))
      rw [f.1 (30, 0, 0, 0) (by simp), hrr]
      by_cases t : ev g n E (rwo rr b r) 0 = 1
      · rw [if_pos t]
        refine c9_131 (rr := rr) (mn := mn) (by rw [f2.1 _ (by simp)]; exact hrr) (fun b hb => by rw [f2.1 _ (by simp)]; exact h31 b hb) hm8 hb (by omega) ?_
        have := ih (r + 1) M1 (by omega) f2
        rw [show crN (mtc g n E rr) b (r + 1) = crN (mtc g n E rr) b r + 1 from by show crN (mtc g n E rr) b r + one (mtc g n E rr b r) = _; rw [one_t (show mtc g n E rr b r from t)], ← Nat.add_assoc] at this
        rw [show crN (ulk g n E mn rr) b (r + 1) = crN (ulk g n E mn rr) b r + one (fst mn rr b r) from by
          show crN (ulk g n E mn rr) b r + one (mtc g n E rr b r ∧ fst mn rr b r) = _
          by_cases q : fst mn rr b r
          · rw [one_t q, one_t ⟨t, q⟩]
          · rw [one_f q, one_f (fun z => q z.2)], ← Nat.add_assoc] at this
        exact this
      · rw [if_neg t]
        have := ih (r + 1) M1 (by omega) f2
        rw [show crN (mtc g n E rr) b (r + 1) = crN (mtc g n E rr) b r from by show crN (mtc g n E rr) b r + one (mtc g n E rr b r) = _; rw [one_f (show ¬ mtc g n E rr b r from t), Nat.add_zero]] at this
        rw [show crN (ulk g n E mn rr) b (r + 1) = crN (ulk g n E mn rr) b r from by
          show crN (ulk g n E mn rr) b r + one (mtc g n E rr b r ∧ fst mn rr b r) = _
          rw [one_f (fun z => t z.1), Nat.add_zero]] at this
        exact this
  have outer : ∀ m b M, b + m = 6 → onl M0 M moK → w_X9_answer_37 a1 Q (m + 1) (nI (cbN (mtc g n E rr) mn b)) (nI (cbN (ulk g n E mn rr) mn b)) (lkS (fun b => chM g n E M0 b v) mn b) (blS (fun b => chM g n E M0 b v) (a1 - 3) b) (nI b) M := by
    intro m
    induction m with
    | zero =>
      intro b M hb f
      have : b = 6 := by omega
      subst this
      rw [w_X9_answer_37, if_pos (by decide)]
      have h := hQ M f
      by_cases e0 : a1 = 0
      · rw [if_pos e0] at h ⊢; exact h
      rw [if_neg e0] at h ⊢
      by_cases e1 : a1 = 1
      · rw [if_pos e1] at h ⊢; exact h
      rw [if_neg e1] at h ⊢
      by_cases e2 : a1 = 2
      · rw [if_pos e2] at h ⊢; exact h
      rw [if_neg e2] at h ⊢
      exact h
    | succ m ih =>
      intro b M hb f
      rw [w_X9_answer_37, if_neg (by rw [nI_lel (by omega) (by omega)]; omega)]
      have hC1 : RC M g n E := hC.kp (fun i h1 => f.1 i (by simp; omega))
      refine c9_verdictOf hC1 hv (by omega) (by rw [f.1 _ (by simp)]; exact hok b (by omega)) (fun M1 f1 => ?_)
      have f2 : onl M0 M1 moK := f.tr f1
      have ech : chM g n E M b v = chM g n E M0 b v := chM_kp (fun i hi => f.1 i (by simp; omega))
      rw [ech, nI_clamp (n := b) (by omega), f2.1 (31, 0, 0, 0) (by simp), h31 b (by omega)]
      have go : ∀ x4 x5, x4 = lkS (fun b => chM g n E M0 b v) mn (b + 1) → x5 = blS (fun b => chM g n E M0 b v) (a1 - 3) (b + 1) → ∃ k0, w_X9_answer_98 a1 Q (fun x2 x3 x4 x5 x6 M => w_X9_answer_37 a1 Q (m + 1) x2 x3 x4 x5 x6 M) k0 (nI (cbN (mtc g n E rr) mn b)) (nI (cbN (ulk g n E mn rr) mn b)) x4 x5 (nI b) 0 M1 := by
        intro x4 x5 h4 h5
        have h := rows b (by omega) (fun x2 x3 x4 x5 x6 M => w_X9_answer_37 a1 Q (m + 1) x2 x3 x4 x5 x6 M) x4 x5 (cbN (mtc g n E rr) mn b) (cbN (ulk g n E mn rr) mn b) (fun M2 f3 => by rw [h4, h5]; exact ih (b + 1) M2 (by omega) f3) (mn b) 0 M1 (by omega) f2
        exact ⟨mn b + 1, h⟩
      by_cases z : ruO (chM g n E M0 b v) = a1 - 3
      · rw [if_pos z]
        intro x5 e5
        have h5 : x5 = blS (fun b => chM g n E M0 b v) (a1 - 3) (b + 1) := by rw [e5]; exact (if_pos z).symm
        by_cases y : ruO (chM g n E M0 b v) = 2
        · rw [if_pos y]
          exact ⟨vpT (by omega) (by omega), fun x4 e4 => go x4 x5 (by rw [e4]; exact (if_pos y).symm) h5⟩
        · rw [if_neg y]
          exact fun x4 e4 => go x4 x5 (by rw [e4, Int32.add_zero]; exact (if_neg y).symm) h5
      · rw [if_neg z]
        intro x5 e5
        have h5 : x5 = blS (fun b => chM g n E M0 b v) (a1 - 3) (b + 1) := by rw [e5, Int32.or_zero]; exact (if_neg z).symm
        by_cases y : ruO (chM g n E M0 b v) = 2
        · rw [if_pos y]
          exact ⟨vpT (by omega) (by omega), fun x4 e4 => go x4 x5 (by rw [e4]; exact (if_pos y).symm) h5⟩
        · rw [if_neg y]
          exact fun x4 e4 => go x4 x5 (by rw [e4, Int32.add_zero]; exact (if_neg y).symm) h5
  have h := outer 6 0 M0 rfl onl.rf
  exact ⟨7, h⟩
/-- answer -/
theorem o_answer {a1 : Int32} {M : Mem} (hR : Rel M) {Q : Int32 → Mem → Prop} (hQ : ∀ r M1, OPK (w_X9_answer a1) M r M1 → Q r M1) : w_X8_answer a1 Q M := by
  have hR0 := hR
  obtain ⟨⟨mn, hS⟩, hI, n, hn, h29, hq⟩ := hR
  have h31 : ∀ b, b < 6 → M.1 (31, 0, 0, 0) b = nI (mn b) := fun b hb => (hS b hb).1
  have hB : ∀ b, b < 6 → RB M 0 b (M.1 (30, 0, 0, 0)) (M.1 (32, 0, 0, 0)) (mn b) := fun b hb => (hS b hb).2.1
  have hm8 : ∀ b, b < 6 → mn b ≤ 8 := fun b hb => (hB b hb).2.1
  have hent : ∀ b r c, b < 6 → r < mn b → c < 4 → ent (M.1 (30, 0, 0, 0) (32 * b + 4 * r + c)) := fun b r c hb hr hc => ((hS b hb).2.2.1 r c hr hc).1
  unfold w_X8_answer
  rcases xn a1 (n := 6) (by omega) with h | ⟨w, hw, e⟩
  · have out : Q (-2) M := by
      refine hQ _ _ (OPK.same hR0 fun Q q => c9_in0 (h.imp id (lt_of_le_s (by decide))) ?_)
      rw [if_pos rfl]
      exact q
    by_cases h0 : a1 < 0
    · rw [if_pos h0]; exact out
    · rw [if_neg h0, if_neg (by rw [i32_nle]; exact lt_of_le_s (by decide) (h.resolve_left h0))]
      exact out
  have n0 : ¬ a1 < 0 := by rw [e]; exact nI_nn (by omega)
  have l5 : a1 ≤ 5 := by rw [e, nI_ler (by omega) (by omega)]; omega
  rw [if_neg n0, if_pos l5]
  have pre : ∀ {Q : Int32 → Mem → Prop} {M1 : Mem}, (w_X9_read  (fun (r13 : Int32) (M13 : Mem) => (if r13 = (-2000000 : Int32) then (∃ k0 : Nat, w_X9_answer_37 a1 Q k0 (0 : Int32) (0 : Int32) (0 : Int32) (0 : Int32) (0 : Int32) M13) else (Q (-5 : Int32) M13))) M1) → w_X9_answer a1 Q M1 := by
    intro Q M1 h
    refine c9_in1 n0 (i32_nlt.mpr l5) ?_
    rw [if_neg (by decide)]
    exact h
  rcases hq.cases hn with ⟨E, hc, hf, -⟩ | ⟨v, hv, hf, -⟩
  · refine hf _ ?_
    rw [if_pos rfl]
    obtain ⟨v, hv⟩ := OC.ex hc.2.2.2.2.2.2.1
    have fin : ∀ M1 x, look M M1 → x = (if a1 = 0 then nI (cbN (mtc (M.1 (34, 0, 0, 0)) n E (M.1 (30, 0, 0, 0))) mn 6) else if a1 = 1 then nI (cbN (ulk (M.1 (34, 0, 0, 0)) n E mn (M.1 (30, 0, 0, 0))) mn 6) else if a1 = 2 then lkS (fun b => chM (M.1 (34, 0, 0, 0)) n E M b v) mn 6 else blS (fun b => chM (M.1 (34, 0, 0, 0)) n E M b v) (a1 - 3) 6) → Q x M1 := by
      intro M1 x l1 ex
      have g29 : M1.1 (29, 0, 0, 0) 4 = nI n := by rw [l1 _ (by simp)]; exact h29
      have g34 : M1.1 (34, 0, 0, 0) = M.1 (34, 0, 0, 0) := l1 _ (by simp)
      refine hQ _ _ ⟨l1 _ (by simp), fun Q q => pre (c9_readE hn hc.2.2.2.2.1 hc.2.2.2.2.2.1 g29 g34 (fun M2 f2 rr => ?_))⟩
      rw [if_pos rfl]
      have l2 : look M M2 := l1.tr (rd_look f2)
      have hrc : RC M2 (M.1 (34, 0, 0, 0)) n E := hc.rc g29 g34 f2 rr
      refine c9_answer hrc hv hm8 (fun b hb => by rw [l2 (31, 0, 0, 0) (by simp)]; exact h31 b hb) (fun b hb => by rw [l2 (32, 0, 0, 0) (by simp)]; exact (hS b hb).2.2.ok) (fun M3 f3 => ?_)
      have ech : (fun b => chM (M.1 (34, 0, 0, 0)) n E M2 b v) = (fun b => chM (M.1 (34, 0, 0, 0)) n E M b v) := funext fun b => chM_look l2
      rw [ech, l2 (30, 0, 0, 0) (by simp), ← ex]
      exact q M3 (by rw [f3.1 _ (by simp), f2.1 _ (by simp)]) (hR0.look (l2.tr (mo_look f3)))
    by_cases e0 : a1 = 0
    · rw [if_pos e0]
      exact c8_countMatches hc hB (fun M1 l1 => fin M1 _ l1 (by rw [if_pos e0]))
    rw [if_neg e0]
    by_cases e1 : a1 = 1
    · rw [if_pos e1]
      exact c8_countUnlikeMatches hc hB hent (fun M1 l1 => fin M1 _ l1 (by rw [if_neg e0, if_pos e1]))
    rw [if_neg e1]
    by_cases e2 : a1 = 2
    · rw [if_pos e2]
      refine c8_weighBlocks hc hv hB h31 (fun M1 l1 h25 => ?_)
      exact c8_countScannedRows (ch := fun b => chM (M.1 (34, 0, 0, 0)) n E M b v) (mn := mn) h25 (fun b hb => (l1.rb (hB b hb)).1) (fin M1 _ l1 (by rw [if_neg e0, if_neg e1, if_pos e2]))
    · rw [if_neg e2]
      refine c8_weighBlocks hc hv hB h31 (fun M1 l1 h25 => ?_)
      exact c8_blocksRuled (ch := fun b => chM (M.1 (34, 0, 0, 0)) n E M b v) h25 (fin M1 _ l1 (by rw [if_neg e0, if_neg e1, if_neg e2]))
  · refine hf _ ?_
    rw [if_neg (by decide)]
    refine hQ _ _ ⟨rfl, fun Q q => pre (c9_readF hn hv h29 rfl (fun M2 f2 => ?_))⟩
    rw [if_neg (hv.nN hn)]
    exact q M2 (f2.1 _ (by simp)) (hR0.look (rd_look f2))
