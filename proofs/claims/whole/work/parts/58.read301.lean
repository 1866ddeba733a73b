/-! the shape of a question without fault, place by place -/
theorem SQ.bas {g : Nat → Int32} {n : Nat} {E : Nat → Nat} (h : SQ g n E) {k : Nat} (hk : k < n) : bas g n E k := by
  obtain ⟨r, T, h1, h2, h3, h4, -⟩ := h k hk
  exact ⟨r, T, h1, h2, h3, h4⟩
theorem kd_nz {g : Nat → Int32} {n k r : Nat} {T : List Nat} (hn : stk g n = some []) (hk : k < n) (h : stk g k = some (r :: T)) (hr : r ≤ 2) : kd g k ≠ 0 := by
  obtain ⟨r2, T2, e, hz, -⟩ := stk_up hn hk
  rw [h] at e
  cases e
  have h1 := stk_mem k _ h r (by simp)
  unfold kd
  rw [rol_of h, if_pos (by omega)]
  exact hz
theorem SQ.eq {g : Nat → Int32} {n : Nat} {E : Nat → Nat} (h : SQ g n E) {k r : Nat} {T : List Nat} (hk : k < n) (e : stk g k = some (r :: T)) : E k = eqE E k (knd r (g k)) ∧ stk g (E k) = some T := by
  obtain ⟨r2, T2, h1, h2, h3, h4, h5⟩ := h k hk
  rw [e] at h1
  cases h1
  exact ⟨h5, h4⟩
theorem psh_c {c : Nat} (h : 1 ≤ c) (h2 : c ≤ 15) : (1 ≤ innr c → ∃ l, psh c = ptw c :: l) ∧ (innr c = 2 → psh c = [ptw c, ptw c]) ∧ (c ≠ 3 → c ≠ 8 → c ≠ 15 → (psh c).length = innr c) := by
  rcases c15 h h2 with h | h | h | h | h | h | h | h | h | h | h | h | h | h | h <;> subst h <;> refine ⟨fun q => ?_, fun q => ?_, fun q1 q2 q3 => ?_⟩ <;> first | rfl | exact ⟨_, rfl⟩ | exact absurd q (by decide) | exact absurd rfl q1 | exact absurd rfl q2 | exact absurd rfl q3
theorem sh {g : Nat → Int32} {n : Nat} {E : Nat → Nat} (hn : stk g n = some []) (hs : SQ g n E) {k : Nat} (hk : k < n) {c : Nat} (hc : kd g k = c) (h0 : c ≠ 0) :
    (1 ≤ innr c → k + 1 < n ∧ kd g (k + 1) ≠ 0 ∧ rol g (k + 1) = ptw c) ∧
    (innr c = 2 → k + 1 < E (k + 1) ∧ E (k + 1) < n ∧ kd g (E (k + 1)) ≠ 0 ∧ rol g (E (k + 1)) = ptw c) ∧
    E k = (if c = 3 then k + 4 else if c = 8 then E (k + 1) + 1 else if c = 15 then k + 2 else if innr c = 0 then k + 1 else if innr c = 1 then E (k + 1) else E (E (k + 1))) ∧
    (c = 3 → k + 3 < n ∧ isD (g (k + 1)) ∧ isD (g (k + 2)) ∧ isD (g (k + 3))) ∧
    (c = 8 → k + 1 < E (k + 1) ∧ E (k + 1) < n ∧ isD (g (E (k + 1))) ∧ g (E (k + 1)) ≠ 48) ∧
    (c = 15 → k + 1 < n ∧ isL (g (k + 1))) := by
  have hle : c ≤ 15 := by rw [← hc]; exact kd_le g k
  obtain ⟨r, T, e, hz, ⟨b1, b2, b3⟩, l1, l2, l3, l4⟩ := stepE hn hk (fun j h1 h2 => hs.bas h2)
  have hr12 : r = 1 ∨ r = 2 := by
    refine Classical.byContradiction fun q => h0 ?_
    rw [← hc]
    unfold kd
    rw [rol_of e, if_neg q]
  have hcr : knd r (g k) = c := by
    rw [← hc]
    unfold kd
    rw [rol_of e, if_pos hr12]
  obtain ⟨p1, p2, p3⟩ := psh_c (c := c) (by omega) hle
  have e1 : stk g (k + 1) = some (psh c ++ T) := by
    have := stk_s e
    rw [if_neg hz, hcr] at this
    exact this
  have hE := (hs.eq hk e).1
  rw [hcr] at hE l1 l2 l3 l4
  have pt : ptw c ≤ 2 := by unfold ptw; split <;> omega
  have two : innr c ≤ 2 := by
    unfold innr
    repeat' split
    all_goals omega
  refine ⟨fun q => ?_, fun q => ?_, ?_, l3, fun q => ?_, fun q => ?_⟩
  · obtain ⟨l, hl⟩ := p1 q
    rw [hl] at e1 l1
    have hlt := l1 (by simp)
    exact ⟨hlt, kd_nz hn hlt e1 pt, rol_of e1⟩
  · have hl := p2 q
    rw [hl] at e1 l2
    obtain ⟨a1, a2⟩ := l2 rfl
    have e2 := (hs.eq (by omega) e1).2
    exact ⟨a1, a2, kd_nz hn a2 e2 pt, rol_of e2⟩
  · rw [hE]
    unfold eqE
    by_cases c3 : c = 3
    · rw [if_pos c3, if_pos c3]
    rw [if_neg c3, if_neg c3]
    by_cases c8 : c = 8
    · subst c8
      have e1' : stk g (k + 1) = some (2 :: 5 :: T) := e1
      obtain ⟨a1, a2⟩ := l2 rfl
      have e2 := (hs.eq (by omega) e1').2
      have hz5 := stk_up hn a2
      obtain ⟨r5, T5, e5, hz5, -⟩ := hz5
      rw [e2] at e5
      cases e5
      have h18 : knd 5 (g (E (k + 1))) = 18 := by
        rw [knd5] at hz5 ⊢
        by_cases q : isD (g (E (k + 1))) ∧ g (E (k + 1)) ≠ 48
        · rw [if_pos q]
        · rw [if_neg q] at hz5; exact absurd rfl hz5
      have h3 := (hs.eq a2 e2).1
      rw [h18] at h3
      rw [if_neg (by decide), if_neg (by decide), if_pos rfl, h3]
      rfl
    rw [if_neg c8]
    by_cases c15 : c = 15
    · subst c15
      have e1' : stk g (k + 1) = some (3 :: T) := e1
      have a1 := l1 (by decide)
      obtain ⟨r5, T5, e5, hz5, -⟩ := stk_up hn a1
      rw [e1'] at e5
      cases e5
      have h16 : knd 3 (g (k + 1)) = 16 := by
        exact if_pos (show isL (g (k + 1)) from Classical.byContradiction fun q => hz5 (show (if isL (g (k + 1)) then 16 else 0) = 0 from if_neg q))
      have h3 := (hs.eq a1 e1').1
      rw [h16] at h3
      rw [if_neg (by decide), if_pos (by decide), if_pos rfl, h3]
      rfl
    rw [if_neg c15, p3 c3 c8 c15]
  · subst q
    have e1' : stk g (k + 1) = some (2 :: 5 :: T) := e1
    obtain ⟨a1, a2⟩ := l2 rfl
    have e2 := (hs.eq (by omega) e1').2
    obtain ⟨r5, T5, e5, hz5, -⟩ := stk_up hn a2
    rw [e2] at e5
    cases e5
    have h18 : isD (g (E (k + 1))) ∧ g (E (k + 1)) ≠ 48 := by
      refine Classical.byContradiction fun q => hz5 ?_
      rw [knd5, if_neg q]
    exact ⟨a1, a2, h18⟩
  · subst q
    have e1' : stk g (k + 1) = some (3 :: T) := e1
    have a1 := l1 (by decide)
    obtain ⟨r5, T5, e5, hz5, -⟩ := stk_up hn a1
    rw [e1'] at e5
    cases e5
    exact ⟨a1, Classical.byContradiction fun q => hz5 (show (if isL (g (k + 1)) then 16 else 0) = 0 from if_neg q)⟩
def RRk (M : Mem) (g : Nat → Int32) (E : Nat → Nat) (k : Nat) : Prop := kd g k ≠ 0 → M.1 (36, 0, 0, 0) k = nI (k + 1) ∧ M.1 (37, 0, 0, 0) k = nI (if innr (kd g k) = 0 then k + 1 else E (k + 1)) ∧ M.1 (38, 0, 0, 0) k = nI (E k)
theorem c9_read_301 {g : Nat → Int32} {n : Nat} {E : Nat → Nat} (hn : stk g n = some []) (hn60 : n ≤ 60) (hs : SQ g n E) {Q : Int32 → Mem → Prop} {M0 : Mem} (h35 : ∀ j, j < n → M0.1 (35, 0, 0, 0) j = kdI g j) (hQ : ∀ M1, onl M0 M1 [36, 37, 38] → (∀ k, k < n → RRk M1 g E k) → Q (-2000000) M1) : ∀ p x M, x = dn p → p ≤ n → onl M0 M [36, 37, 38] → (∀ k, p ≤ k → k < n → RRk M g E k) → w_X9_read_301 Q (p + 1) x M := by
  intro p
  induction p with
  | zero =>
    intro x M hx hp hf hE
    rw [w_X9_read_301, hx, if_pos dn_0]
    exact hQ M hf (fun k hk => hE k (by omega) hk)
  | succ q ih =>
    intro x M hx hp hf hE
    rw [dn_s] at hx
    have k35 : M.1 (35, 0, 0, 0) q = kdI g q := by rw [hf.1 _ (by simp)]; exact h35 q (by omega)
    rw [w_X9_read_301, hx, if_neg (nI_nn (by omega)), nI_clamp (n := q) (by omega), k35]
    obtain ⟨y, hy⟩ : ∃ y, y = nI q + (-1) := ⟨_, rfl⟩
    refine ⟨vpT (by omega) (by omega), ?_⟩
    obtain ⟨c, hc⟩ : ∃ c, kd g q = c := ⟨_, rfl⟩
    unfold kdI
    rw [hc]
    by_cases hz : c = 0
    · rw [hz, nz_0, if_pos rfl, ← hy]
      refine ih y M hy (by omega) hf (fun k hk hkn => ?_)
      by_cases e : k = q
      · subst e
        intro h
        rw [hc] at h
        exact absurd hz h
      · exact hE k (by omega) hkn
    · have hle : c ≤ 15 := by rw [← hc]; exact kd_le g q
      obtain ⟨s1, s2, s3, s4, s5, s6⟩ := sh hn hs (by omega : q < n) hc hz
      rw [nz_p hz, if_neg (nI_neN (by omega)), nI_1]
      refine ⟨vpT (by omega) (by omega), c9_inner (by omega) hle ⟨vpT (by omega) (by omega), ?_⟩⟩
      have two : innr c ≤ 2 := by
        unfold innr
        repeat' split
        all_goals omega
      obtain ⟨M1, hM1⟩ : ∃ M1, M1 = mu M (36, 0, 0, 0) q (nI (q + 1)) := ⟨_, rfl⟩
      rw [← hM1]
      have f1 : onl M0 M1 [36, 37, 38] := by rw [hM1]; exact hf.tr (onl.mr _ (by simp))
      have m36 : M1.1 (36, 0, 0, 0) = upd (M.1 (36, 0, 0, 0)) q (nI (q + 1)) := by rw [hM1, mu_row]
      have m37 : M1.1 (37, 0, 0, 0) = M.1 (37, 0, 0, 0) := by rw [hM1, mu_ne _ _ _ (by simp)]
      have m38 : M1.1 (38, 0, 0, 0) = M.1 (38, 0, 0, 0) := by rw [hM1, mu_ne _ _ _ (by simp)]
      -- the end
      have fin : ∀ (u v : Nat), u = (if innr c = 0 then q + 1 else E (q + 1)) → v = E q → w_X9_read_301 Q (q + 1) y (mu (mu M1 (37, 0, 0, 0) q (nI u)) (38, 0, 0, 0) q (nI v)) := by
        intro u v hu hv
        refine ih y _ hy (by omega) ((f1.tr (onl.mr _ (by simp))).tr (onl.mr _ (by simp))) (fun k hk hkn h => ?_)
        rw [mu_ne _ _ _ (by simp), mu_ne _ _ _ (by simp), mu_ne (mu M1 (37, 0, 0, 0) q (nI u)) _ _ (by simp), mu_row, mu_row, mu_ne _ _ _ (by simp), m36, m37, m38]
        by_cases e : k = q
        · subst e
          rw [upd_at, upd_at, upd_at, hu, hv, hc]
          exact ⟨rfl, rfl, rfl⟩
        · rw [upd_ne _ _ e, upd_ne _ _ e, upd_ne _ _ e]
          exact hE k (by omega) hkn h
      have m35 : ∀ u : Nat, (mu M1 (37, 0, 0, 0) q (nI u)).1 (35, 0, 0, 0) q = nI c := fun u => by
        rw [mu_ne _ _ _ (by simp), hM1, mu_ne _ _ _ (by simp), k35]
        unfold kdI
        rw [hc, nz_p hz]
      have last : ∀ (u t : Nat), u = (if innr c = 0 then q + 1 else E (q + 1)) → (c ≠ 3 → c ≠ 8 → c ≠ 15 → t = E q) → (c = 8 → t = E (q + 1)) → t < 2 ^ 30 → w_X9_read_384 Q (fun x2 M => w_X9_read_301 Q (q + 1) x2 M) (nI q) (nI t) (mu M1 (37, 0, 0, 0) q (nI u)) := by
        intro u t hu ht h8 hlt
        unfold w_X9_read_384
        rw [← hy, nI_clamp (n := q) (by omega), m35 u]
        refine ⟨vpT (by omega) (by omega), ?_⟩
        by_cases c3 : c = 3
        · rw [if_pos (by rw [c3]; rfl), show nI q + 4 = nI (q + 4) from nI_al _ _]
          exact ⟨vpT (by omega) (by omega), fin u _ hu (by rw [s3, if_pos c3])⟩
        rw [if_neg (show ¬ nI c = 3 from nIne (by omega) (by decide) c3)]
        refine ⟨vpT (by omega) (by omega), ?_⟩
        by_cases c8 : c = 8
        · rw [if_pos (by rw [c8]; rfl), nI_1]
          exact ⟨vpT (by omega) (by omega), fin u _ hu (by rw [s3, if_neg c3, if_pos c8, h8 c8])⟩
        rw [if_neg (show ¬ nI c = 8 from nIne (by omega) (by decide) c8)]
        refine ⟨vpT (by omega) (by omega), ?_⟩
        by_cases c15 : c = 15
        · rw [if_pos (by rw [c15]; rfl), show nI q + 2 = nI (q + 2) from nI_al _ _]
          exact ⟨vpT (by omega) (by omega), fin u _ hu (by rw [s3, if_neg c3, if_neg c8, if_pos c15])⟩
        rw [if_neg (show ¬ nI c = 15 from nIne (by omega) (by decide) c15)]
        exact ⟨vpT (by omega) (by omega), fin u t hu (ht c3 c8 c15)⟩
      have at37 : ∀ u : Nat, (mu M1 (37, 0, 0, 0) q (nI u)).1 (37, 0, 0, 0) q = nI u := fun u => by rw [mu_row, upd_at]
      by_cases i0 : innr c = 0
      · rw [i0, if_pos (by decide)]
        unfold w_X9_read_358
        rw [if_pos (by decide), nI_clamp (n := q) (by omega), at37]
        refine ⟨vpT (by omega) (by omega), vpT (by omega) (by omega), last _ _ (by rw [if_pos i0]) (fun a b d => ?_) (fun a => ?_) (by omega)⟩
        · rw [s3, if_neg a, if_neg b, if_neg d, if_pos i0]
        · subst a; exact absurd i0 (by decide)
      · obtain ⟨t1, t2, t3⟩ := s1 (by omega)
        have e38 : M1.1 (38, 0, 0, 0) (q + 1) = nI (E (q + 1)) := by rw [m38]; exact (hE (q + 1) (by omega) t1 t2).2.2
        have hb := hs.bas t1
        have hEn : E (q + 1) ≤ n := by obtain ⟨_, _, _, _, z, _⟩ := hb; exact z
        rw [if_neg (nI_nle (by omega) (by omega)), nI_clamp (n := q + 1) (by omega), e38]
        refine ⟨vpT (by omega) (by omega), ?_⟩
        unfold w_X9_read_358
        rw [nI_clamp (n := q) (by omega), at37]
        refine ⟨vpT (by omega) (by omega), ?_⟩
        by_cases i1 : innr c = 1
        · rw [i1, if_pos (by decide)]
          refine ⟨vpT (by omega) (by omega), last _ _ (by rw [if_neg i0]) (fun a b d => ?_) (fun _ => rfl) (by omega)⟩
          rw [s3, if_neg a, if_neg b, if_neg d, if_neg i0, if_pos i1]
        · have i2 : innr c = 2 := by omega
          obtain ⟨u1, u2, u3, u4⟩ := s2 i2
          have hb2 := hs.bas u2
          have hEn2 : E (E (q + 1)) ≤ n := by obtain ⟨_, _, _, _, z, _⟩ := hb2; exact z
          have e38b : (mu M1 (37, 0, 0, 0) q (nI (E (q + 1)))).1 (38, 0, 0, 0) (E (q + 1)) = nI (E (E (q + 1))) := by
            rw [mu_ne _ _ _ (by simp), m38]; exact (hE (E (q + 1)) (by omega) u2 u3).2.2
          rw [i2, if_neg (by decide), nI_clamp (n := E (q + 1)) (by omega), e38b]
          refine ⟨vpT (by omega) (by omega), vpT (by omega) (by omega), last _ _ (by rw [if_neg i0]) (fun a b d => ?_) (fun a => ?_) (by omega)⟩
          · rw [s3, if_neg a, if_neg b, if_neg d, if_neg i0, if_neg i1]
          · subst a; exact absurd i2 (by decide)
def RR (M : Mem) (g : Nat → Int32) (n : Nat) (E : Nat → Nat) : Prop := (∀ j, j < n → M.1 (35, 0, 0, 0) j = kdI g j) ∧ ∀ k, k < n → RRk M g E k
abbrev rdK : List Nat := [35, 36, 37, 38, 39]
theorem c9_read {g : Nat → Int32} {n : Nat} (hn60 : n ≤ 60) {Q : Int32 → Mem → Prop} {M : Mem} (h29 : M.1 (29, 0, 0, 0) 4 = nI n) (h34 : M.1 (34, 0, 0, 0) = g)
    (hW : ∀ w S M1, w < n → stk g w = some S → stk g (w + 1) = none → onl M M1 rdK → Q (nI w) M1)
    (hP : ∀ r T M1, stk g n = some (r :: T) → onl M M1 rdK → Q (nI n) M1)
    (hE : ∀ M1, stk g n = some [] → onl M M1 rdK → (∀ E, SQ g n E → RR M1 g n E) → Q (-2000000) M1) (hSQ : stk g n = some [] → ∃ E, SQ g n E) : w_X9_read Q M := by
  refine ⟨n + 1, ?_⟩
  have f0 : onl M (mu M (39, 0, 0, 0) 0 1) [35, 39] := onl.mr _ (by simp)
  refine c9_read_11 (M0 := mu M (39, 0, 0, 0) 0 1) (S := [1]) hn60 (by rw [mu_ne _ _ _ (by simp)]; exact h29) (by rw [mu_ne _ _ _ (by simp)]; exact h34) (fun w S M1 a b c d => hW w S M1 a b c ((f0.tr d).sub (by simp))) (fun r T M1 a b => hP r T M1 a ((f0.tr b).sub (by simp))) (fun M1 a b h35 => ?_) n 0 _ (by omega) rfl onl.rf ⟨by rw [mu_row, List.length_nil, upd_at]; rfl, trivial⟩ (fun j hj => absurd hj (by omega))
  obtain ⟨E, hs⟩ := hSQ a
  have hee : ∀ E2, SQ g n E2 → ∀ d k, n - k ≤ d → k < n → E2 k = E k := by
    intro E2 hs2 d
    induction d with
    | zero => intro k h1 h2; omega
    | succ d ih =>
      intro k h1 h2
      obtain ⟨r, T, e, b1, b2, b3, b4⟩ := hs k h2
      obtain ⟨r', T', e', b1', b2', b3', b4'⟩ := hs2 k h2
      rw [e] at e'
      cases e'
      obtain ⟨r3, T3, u1, u2, u3, u4, u5, -⟩ := stepE a h2 (fun j h1 h2 => hs.bas h2)
      rw [e] at u1
      cases u1
      rw [b4, b4']
      unfold eqE
      by_cases c3 : knd r (g k) = 3
      · rw [if_pos c3, if_pos c3]
      rw [if_neg c3, if_neg c3]
      by_cases l0 : (psh (knd r (g k))).length = 0
      · rw [if_pos l0, if_pos l0]
      rw [if_neg l0, if_neg l0, ih (k + 1) (by omega) (u4 (by omega))]
      by_cases l1 : (psh (knd r (g k))).length = 1
      · rw [if_pos l1, if_pos l1]
      rw [if_neg l1, if_neg l1]
      have := psh_le2 c3
      obtain ⟨v1, v2⟩ := u5 (by omega)
      exact ih _ (by omega) v2
  have hfin : ∀ M2, onl M1 M2 [36, 37, 38] → (∀ k, k < n → RRk M2 g E k) → Q (-2000000) M2 := fun M2 h2 hr => by
    refine hE M2 a (((f0.tr b).sub (by simp)).tr (h2.sub (by simp))) (fun E2 hs2 => ⟨fun j hj => by rw [h2.1 _ (by simp)]; exact h35 j hj, fun k hk => ?_⟩)
    have hee := hee E2 hs2
    intro h
    obtain ⟨q1, q2, q3⟩ := hr k hk h
    refine ⟨q1, ?_, by rw [hee n k (by omega) hk]; exact q3⟩
    rw [q2]
    by_cases i0 : innr (kd g k) = 0
    · rw [if_pos i0, if_pos i0]
    · obtain ⟨s1, -⟩ := sh a hs hk rfl h
      rw [if_neg i0, if_neg i0, hee n (k + 1) (by omega) (s1 (by omega)).1]
  obtain ⟨x, hx⟩ : ∃ x, x = dn n := ⟨_, rfl⟩
  rw [← hx]
  have h := c9_read_301 a hn60 hs h35 hfin n x M1 hx (Nat.le_refl n) onl.rf (fun k h1 h2 => absurd h2 (by omega))
  exact ⟨n + 1, h⟩
/-- fault -/
theorem c1_fault {M : Mem} {g : Nat → Int32} {n : Nat} (hn : n ≤ 60) (hI : QI M g n) {Q : Int32 → Mem → Prop} (hW : ∀ w S, w < n → stk g w = some S → stk g (w + 1) = none → Q (nI w) M) (hP : ∀ r T, stk g n = some (r :: T) → Q (nI n) M) (hE : stk g n = some [] → Q (-2000000) M) : w_X1_faultPlace Q M := by
  obtain ⟨h0, h12, hsg, hd⟩ := hI
  unfold w_X1_faultPlace
  rcases hd with ⟨S, d1, d2, d3, -⟩ | ⟨w, S, w1, w2, w3, w4⟩
  · rw [d2, if_pos rfl, d3]
    have hlen := stk_len n _ d1
    cases S with
    | nil => rw [if_pos (by decide)]; exact hE d1
    | cons r T => rw [if_neg (nI_nle (by simp) (by omega)), h0]; exact hP r T d1
  · rw [w4, if_neg (nI_neN (by omega))]
    exact hW w S w1 w2 w3
