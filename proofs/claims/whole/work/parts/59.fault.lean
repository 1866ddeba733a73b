/-! fault; what a question without fault gives to both sides -/
def FV (g : Nat → Int32) (n : Nat) (v : Int32) : Prop := (∃ w S, w < n ∧ stk g w = some S ∧ stk g (w + 1) = none ∧ v = nI w) ∨ ∃ r T, stk g n = some (r :: T) ∧ v = nI n
theorem stk_dn2 {g : Nat → Int32} {j k : Nat} {S : List Nat} (h : stk g k = some S) (hj : j ≤ k) : ∃ S2, stk g j = some S2 := stk_dn (k - j) j S (by rw [show j + (k - j) = k by omega]; exact h)
theorem FV.neE {g : Nat → Int32} {n : Nat} {v : Int32} (h : FV g n v) : stk g n ≠ some [] := by
  intro hn
  rcases h with ⟨w, S, hw, -, h2, -⟩ | ⟨r, T, h1, -⟩
  · obtain ⟨S2, h3⟩ := stk_dn2 hn (show w + 1 ≤ n by omega)
    rw [h2] at h3
    cases h3
  · rw [hn] at h1
    cases h1
theorem FV.eq {g : Nat → Int32} {n : Nat} {v v2 : Int32} (h : FV g n v) (h2 : FV g n v2) : v = v2 := by
  have one : ∀ w S w2 S2, stk g w = some S → stk g (w + 1) = none → stk g w2 = some S2 → stk g (w2 + 1) = none → w2 ≤ w := by
    intro w S w2 S2 a b c d
    rcases Nat.lt_or_ge w w2 with q | q
    · obtain ⟨S3, h3⟩ := stk_dn2 c (show w + 1 ≤ w2 by omega)
      rw [b] at h3
      cases h3
    · exact q
  rcases h with ⟨w, S, hw, a, b, e⟩ | ⟨r, T, a, e⟩ <;> rcases h2 with ⟨w2, S2, hw2, a2, b2, e2⟩ | ⟨r2, T2, a2, e2⟩
  · have h1 := one w S w2 S2 a b a2 b2
    have h2 := one w2 S2 w S a2 b2 a b
    rw [e, e2, show w = w2 by omega]
  · obtain ⟨S3, h3⟩ := stk_dn2 a2 (show w + 1 ≤ n by omega)
    rw [b] at h3
    cases h3
  · obtain ⟨S3, h3⟩ := stk_dn2 a (show w2 + 1 ≤ n by omega)
    rw [b2] at h3
    cases h3
  · rw [e, e2]
theorem FV.nN {g : Nat → Int32} {n : Nat} {v : Int32} (hn : n ≤ 60) (h : FV g n v) : v ≠ -2000000 := by
  rcases h with ⟨w, S, hw, a, b, e⟩ | ⟨r, T, a, e⟩ <;> rw [e] <;> exact nI_neN (by omega)
theorem c9_readE {g : Nat → Int32} {n : Nat} {E : Nat → Nat} (hn60 : n ≤ 60) (hn : stk g n = some []) (hs : SQ g n E) {Q : Int32 → Mem → Prop} {M : Mem} (h29 : M.1 (29, 0, 0, 0) 4 = nI n) (h34 : M.1 (34, 0, 0, 0) = g) (hQ : ∀ M1, onl M M1 rdK → RR M1 g n E → Q (-2000000) M1) : w_X9_read Q M := by
  refine c9_read hn60 h29 h34 (fun w S M1 a b c d => ?_) (fun r T M1 a b => ?_) (fun M1 a b c => hQ M1 b (c E hs)) (fun _ => ⟨E, hs⟩)
  · exact absurd hn (FV.neE (v := nI w) (Or.inl ⟨w, S, a, b, c, rfl⟩))
  · rw [hn] at a
    cases a
theorem c9_readF {g : Nat → Int32} {n : Nat} {v : Int32} (hn60 : n ≤ 60) (hv : FV g n v) {Q : Int32 → Mem → Prop} {M : Mem} (h29 : M.1 (29, 0, 0, 0) 4 = nI n) (h34 : M.1 (34, 0, 0, 0) = g) (hQ : ∀ M1, onl M M1 rdK → Q v M1) : w_X9_read Q M := by
  refine c9_read hn60 h29 h34 (fun w S M1 a b c d => ?_) (fun r T M1 a b => ?_) (fun M1 a b c => absurd a hv.neE) (fun h => absurd h hv.neE)
  · rw [FV.eq (v := nI w) (Or.inl ⟨w, S, a, b, c, rfl⟩) hv]; exact hQ M1 d
  · rw [FV.eq (v := nI n) (Or.inr ⟨r, T, a, rfl⟩) hv]; exact hQ M1 b
/-- what the class has of a question without fault -/
def CQ (M : Mem) (g : Nat → Int32) (n : Nat) (E : Nat → Nat) : Prop := n ≤ 60 ∧ 0 < n ∧ M.1 (11, 0, 0, 0) 0 = nI n ∧ M.1 (12, 0, 0, 0) = g ∧ stk g n = some [] ∧ SQ g n E ∧ (∀ i, i < n → ∃ m, 33 ≤ m ∧ m < 127 ∧ g i = nI m) ∧ (∀ k, k < n → M.1 (13, 0, 0, 0) k = nI (rol g k)) ∧ ∀ k, k < n → (k + 1 < n → M.1 (14, 0, 0, 0) k = nI (E (k + 1))) ∧ numOK (M.1 (15, 0, 0, 0) k) g E k (kd g k)
theorem numOK_0 (v : Int32) (g : Nat → Int32) (E : Nat → Nat) (k : Nat) : numOK v g E k 0 := ⟨fun h => absurd h (by decide), fun h => absurd h (by decide), fun h => absurd h (by decide)⟩
theorem QI.cases {M : Mem} {g : Nat → Int32} {n : Nat} (hn : n ≤ 60) (hI : QI M g n) : (∃ E, CQ M g n E ∧ (∀ Q : Int32 → Mem → Prop, Q 0 M → w_X1_isFaulty Q M) ∧ ∀ Q : Int32 → Mem → Prop, Q (-2000000) M → w_X1_faultPlace Q M) ∨ ∃ v, FV g n v ∧ (∀ Q : Int32 → Mem → Prop, Q 1 M → w_X1_isFaulty Q M) ∧ ∀ Q : Int32 → Mem → Prop, Q v M → w_X1_faultPlace Q M := by
  have hI0 := hI
  obtain ⟨h0, h12, hsg, hd⟩ := hI
  rcases hd with ⟨S, d1, d2, d3, d4, d5, d6⟩ | ⟨w, S, w1, w2, w3, w4⟩
  · have hlen := stk_len n _ d1
    cases S with
    | nil =>
      obtain ⟨E, hs, hp⟩ := d6 rfl
      have n0 : 0 < n := by
        rcases Nat.eq_zero_or_pos n with q | q
        · subst q
          cases d1
        · exact q
      refine Or.inl ⟨E, ⟨hn, n0, h0, h12, d1, hs, hsg, fun k hk => ?_, fun k hk => ⟨(hp k hk).2.1, ?_⟩⟩, fun Q hQ => c1_isFaulty0 (by omega) d2 d3 (fun _ => hQ) (fun h => absurd h (by simp)), fun Q hQ => c1_fault hn hI0 (fun w S a b c => absurd d1 (FV.neE (v := nI w) (Or.inl ⟨w, S, a, b, c, rfl⟩))) (fun r T a => absurd d1 (FV.neE (v := nI n) (Or.inr ⟨r, T, a, rfl⟩))) (fun _ => hQ)⟩
      · obtain ⟨r, T, e1, e2⟩ := d5 k hk
        rw [e2, rol_of e1]
      · obtain ⟨r, T, e1, e2⟩ := d5 k hk
        have h3 := (hp k hk).2.2 r T e1
        unfold kd
        rw [rol_of e1]
        split
        · exact h3
        · exact numOK_0 _ _ _ _
    | cons r T =>
      have hv : FV g n (nI n) := Or.inr ⟨r, T, d1, rfl⟩
      refine Or.inr ⟨nI n, hv, fun Q hQ => c1_isFaulty0 (by omega) d2 d3 (fun h => absurd h (by simp)) (fun _ => hQ), fun Q hQ => c1_fault hn hI0 (fun w S a b c => ?_) (fun r T a => hQ) (fun a => absurd a hv.neE)⟩
      rw [FV.eq (v := nI w) (Or.inl ⟨w, S, a, b, c, rfl⟩) hv]
      exact hQ
  · have hv : FV g n (nI w) := Or.inl ⟨w, S, w1, w2, w3, rfl⟩
    refine Or.inr ⟨nI w, hv, fun Q hQ => c1_isFaulty1 (by omega) w4 hQ, fun Q hQ => c1_fault hn hI0 (fun w S a b c => ?_) (fun r T a => ?_) (fun a => absurd a hv.neE)⟩
    · rw [FV.eq (v := nI w) (Or.inl ⟨w, S, a, b, c, rfl⟩) hv]; exact hQ
    · rw [FV.eq (v := nI n) (Or.inr ⟨r, T, a, rfl⟩) hv]; exact hQ
theorem rd_look {M M1 : Mem} (h : onl M M1 rdK) : look M M1 := onl.look h (by simp)
theorem o_fault {M : Mem} (hR : Rel M) {Q : Int32 → Mem → Prop} (hQ : ∀ r M1, OPK w_X9_fault M r M1 → Q r M1) : w_X8_fault Q M := by
  have hR0 := hR
  obtain ⟨hS, hI, n, hn, h29, hq⟩ := hR
  rcases hq.cases hn with ⟨E, hc, -, hf⟩ | ⟨v, hv, -, hf⟩
  · refine hf _ (hQ _ _ ⟨rfl, fun Q q => c9_readE hn hc.2.2.2.2.1 hc.2.2.2.2.2.1 h29 rfl (fun M1 h1 _ => q M1 (h1.1 _ (by simp)) (hR0.look (rd_look h1)))⟩)
  · refine hf _ (hQ _ _ ⟨rfl, fun Q q => c9_readF hn hv h29 rfl (fun M1 h1 => q M1 (h1.1 _ (by simp)) (hR0.look (rd_look h1)))⟩)
