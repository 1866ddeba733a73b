/-! the reference judges a row -/
theorem bm32 {x : Int} (h1 : -2147483648 ≤ x) (h2 : x < 2147483648) : x.bmod (2 ^ 32) = x := Int.bmod_eq_of_le (by omega) (by omega)
theorem byte_eq (a : Int32) {x : Int32} (e : x = ((a - a / 256 * 256) + 256) - ((a - a / 256 * 256) + 256) / 256 * 256) : byO a = if x ≤ 127 then x else x - 256 := by
  have hl := a.le_toInt
  have hu := a.toInt_lt
  have c256 : (256 : Int32).toInt = 256 := by decide
  have c127 : (127 : Int32).toInt = 127 := by decide
  have n1 : (256 : Int32) ≠ -1 := by decide
  have hd : (a / 256).toInt = a.toInt / 256 + (if 0 ≤ a.toInt ∨ 256 ∣ a.toInt then 0 else 1) := by
    rw [Int32.toInt_div_of_ne_right _ _ n1, c256, Int.tdiv_eq_ediv]
    rfl
  have hm : (a / 256 * 256).toInt = (a / 256).toInt * 256 := by
    rw [Int32.toInt_mul, c256]
    refine bm32 ?_ ?_
    · rw [hd]; split <;> omega
    · rw [hd]; split <;> omega
  have hr : (a - a / 256 * 256).toInt = a.toInt - (a / 256).toInt * 256 := by
    rw [Int32.toInt_sub, hm]
    refine bm32 ?_ ?_
    · rw [hd]; split <;> omega
    · rw [hd]; split <;> omega
  obtain ⟨r, er⟩ : ∃ r, r = (a - a / 256 * 256) + 256 := ⟨_, rfl⟩
  rw [← er] at e
  have h3 : r.toInt = a.toInt - (a / 256).toInt * 256 + 256 := by
    rw [er, Int32.toInt_add, hr, c256]
    refine bm32 ?_ ?_
    · rw [hd]; split <;> omega
    · rw [hd]; split <;> omega
  have hr1 : 1 ≤ r.toInt ∧ r.toInt ≤ 511 := by
    rw [h3, hd]
    constructor <;> split <;> omega
  have hd2 : (r / 256).toInt = r.toInt / 256 := by
    rw [Int32.toInt_div_of_ne_right _ _ n1, c256, Int.tdiv_eq_ediv, if_pos (Or.inl (by omega))]
    omega
  have hm2 : (r / 256 * 256).toInt = r.toInt / 256 * 256 := by
    rw [Int32.toInt_mul, c256, hd2]
    exact bm32 (by omega) (by omega)
  have hx : x.toInt = a.toInt % 256 := by
    rw [e, Int32.toInt_sub, hm2, bm32 (by omega) (by omega), h3, hd]
    split <;> omega
  have hb : (byO a).toInt = a.toInt.bmod 256 := by
    unfold byO
    rw [Int8.toInt_toInt32, Int32.toInt_toInt8]
  refine Int32.toInt_inj.mp ?_
  rw [hb, Int.bmod_def]
  by_cases h : x ≤ 127
  · rw [if_pos h, hx]
    rw [i32_le, c127, hx] at h
    rw [if_pos (by omega)]
    rfl
  · rw [if_neg h, Int32.toInt_sub, c256, hx]
    rw [i32_le, c127, hx] at h
    rw [if_neg (by omega), bm32 (by omega) (by omega)]
    rfl
theorem c9_byteOf {x : Int32} {Q : Int32 → Mem → Prop} {M : Mem} (hQ : Q (byO x) M) : w_X9_byteOf x Q M := by
  intro y e
  rw [byte_eq x e] at hQ
  by_cases h : y ≤ 127
  · rw [if_pos h] at hQ ⊢; exact hQ
  · rw [if_neg h] at hQ ⊢; exact hQ
theorem c9_cut {v : Int64} {Q : Int32 → Mem → Prop} {M : Mem} (hQ : Q (cutL v) M) : w_X9_cut v Q M := cutL_if (P := fun v => Q v M) hQ
theorem c9_both {x y : Int32} {Q : Int32 → Mem → Prop} {M : Mem} (hQ : Q (boO x y) M) : w_X9_both x y Q M := c8_both hQ
theorem c9_not {x : Int32} (hx : t012 x) {Q : Int32 → Mem → Prop} {M : Mem} (hQ : Q (noO x) M) : w_X9_not x Q M := by
  unfold w_X9_not
  rcases hx with h | h | h <;> subst h
  · rw [if_neg (by decide)]; exact hQ
  · rw [if_neg (by decide)]; exact hQ
  · rw [if_pos rfl]; exact hQ
theorem noO_t {x : Int32} : t012 (noO x) := by
  unfold noO t012
  repeat' split
  all_goals simp
theorem boO_t {x y : Int32} : t012 (boO x y) := by
  unfold boO t012
  repeat' split
  all_goals simp
theorem eiO_t {x y : Int32} : t012 (eiO x y) := by
  unfold eiO t012
  repeat' split
  all_goals simp
theorem eiO_eq {x y : Int32} (hx : t012 x) (hy : t012 y) : eiO x y = noO (boO (noO x) (noO y)) := by
  rcases hx with h | h | h <;> subst h <;> rcases hy with h | h | h <;> subst h <;> decide
theorem c9_either {x y : Int32} (hx : t012 x) (hy : t012 y) {Q : Int32 → Mem → Prop} {M : Mem} (hQ : Q (eiO x y) M) : w_X9_either x y Q M := by
  rw [eiO_eq hx hy] at hQ
  exact c9_not hx (c9_not hy (c9_both (c9_not boO_t hQ)))
/-- what the reference has of a question without fault -/
def RC (M : Mem) (g : Nat → Int32) (n : Nat) (E : Nat → Nat) : Prop := n ≤ 60 ∧ 0 < n ∧ M.1 (29, 0, 0, 0) 4 = nI n ∧ M.1 (34, 0, 0, 0) = g ∧ stk g n = some [] ∧ SQ g n E ∧ (∀ i, i < n → ∃ m, 33 ≤ m ∧ m < 127 ∧ g i = nI m) ∧ RR M g n E
theorem RC.kp {M M1 : Mem} {g : Nat → Int32} {n : Nat} {E : Nat → Nat} (h : RC M g n E) (h2 : ∀ i : ix, i.1 = 29 ∨ (34 ≤ i.1 ∧ i.1 ≤ 38) → M1.1 i = M.1 i) : RC M1 g n E := by
  unfold RC RR RRk at h ⊢
  rw [h2 (29, 0, 0, 0) (by simp), h2 (34, 0, 0, 0) (by simp), h2 (35, 0, 0, 0) (by simp), h2 (36, 0, 0, 0) (by simp), h2 (37, 0, 0, 0) (by simp), h2 (38, 0, 0, 0) (by simp)]
  exact h
theorem RC.k35 {M : Mem} {g : Nat → Int32} {n : Nat} {E : Nat → Nat} (h : RC M g n E) {k c : Nat} (hk : k < n) (hc : kd g k = c) (hz : c ≠ 0) : M.1 (35, 0, 0, 0) k = nI c := by
  have h1 := h.2.2.2.2.2.2.2.1 k hk
  unfold kdI at h1
  rw [h1, hc, nz_p hz]
theorem i32_assoc (a b c d : Int32) : a + b + c - d = a + b + (c - d) := by
  rw [Int32.sub_eq_add_neg, Int32.sub_eq_add_neg, Int32.add_assoc]
theorem c9_three {M : Mem} {g : Nat → Int32} {k : Nat} (h34 : M.1 (34, 0, 0, 0) = g) (hk : k + 3 < 60) {Q : Int32 → Mem → Prop} (hQ : Q (num3 g k) M) : w_X9_three (nI k) Q M := by
  unfold w_X9_three
  rw [nI_1, show nI k + 2 = nI (k + 2) from nI_al _ _, show nI k + 3 = nI (k + 3) from nI_al _ _, nI_clamp (by omega), nI_clamp (by omega), nI_clamp (by omega), h34, i32_assoc]
  exact ⟨vpT (by omega) (by omega), vpT (by omega) (by omega), vpT (by omega) (by omega), hQ⟩
theorem lt9 {c : Nat} (h1 : 1 ≤ c) (h9 : c ≤ 9) : c = 1 ∨ c = 2 ∨ c = 3 ∨ c = 4 ∨ c = 5 ∨ c = 6 ∨ c = 7 ∨ c = 8 ∨ c = 9 := by omega
theorem c9_number_91 {M : Mem} {g : Nat → Int32} {n : Nat} {E : Nat → Nat} (hC : RC M g n E) {q c : Nat} (hq : q < n) (hc : kd g q = c) (h1 : 1 ≤ c) (h9 : c ≤ 9) {x y : Int32} (hx : 1 ≤ innr c → x ≠ -2000000) (hy : innr c = 2 → y ≠ -2000000) {Q : Int32 → Mem → Prop} (hQ : Q (evc g E (M.1 (41, 0, 0, 0)) q c x y) M) : w_X9_number_91 (nI q) Q x y M := by
  have h35 := hC.k35 hq hc (by omega)
  obtain ⟨hn60, -, h29, h34, hn, hs, hsg, hrr⟩ := hC
  have hz : c ≠ 0 := by omega
  obtain ⟨s1, s2, s3, s4, s5, -⟩ := sh hn hs hq hc hz
  unfold w_X9_number_91
  rw [nI_clamp (n := q) (by omega), h35, h34]
  refine ⟨vpT (by omega) (by omega), ?_⟩
  rcases lt9 h1 h9 with h | h | h | h | h | h | h | h | h <;> subst h
  · rw [if_pos (show nI 1 = 1 from rfl)]
    have hl : isL (g q) := by
      rcases kd_s hc hz with h | h | h
      · exact h.2
      · omega
      · omega
    obtain ⟨j, j1, j2, j3, j4⟩ := isL_ix (hsg q hq) hl
    have hQ : Q (colO (tx (M.1 (41, 0, 0, 0)) (g q))) M := hQ
    rw [j4] at hQ
    rw [j2, nI_clamp (n := j) (by omega)]
    refine ⟨vpT (by omega) (by omega), vpT (by omega) (by omega), ?_⟩
    unfold colO at hQ
    by_cases x4 : M.1 (41, 0, 0, 0) j = 1000
    · rw [if_pos x4] at hQ ⊢; exact hQ
    · rw [if_neg x4] at hQ ⊢; exact ⟨vpT (by omega) (by omega), vpT (by omega) (by omega), hQ⟩
  · rw [if_neg (show ¬ nI 2 = 1 by decide), if_pos (show nI 2 = 2 from rfl)]
    exact ⟨vpT (by omega) (by omega), hQ⟩
  · rw [if_neg (show ¬ nI 3 = 1 by decide), if_neg (show ¬ nI 3 = 2 by decide), if_pos (show nI 3 = 3 from rfl)]
    have := (s4 rfl).1
    exact c9_three h34 (by omega) hQ
  · rw [if_neg (show ¬ nI 4 = 1 by decide), if_neg (show ¬ nI 4 = 2 by decide), if_neg (show ¬ nI 4 = 3 by decide), if_pos (show nI 4 = 4 from rfl)]
    have hQ : Q (orN x (-x)) M := hQ
    unfold orN at hQ
    rw [if_neg (hx (by decide))] at hQ
    exact hQ
  · rw [if_neg (show ¬ nI 5 = 1 by decide), if_neg (show ¬ nI 5 = 2 by decide), if_neg (show ¬ nI 5 = 3 by decide), if_neg (show ¬ nI 5 = 4 by decide), if_pos (show nI 5 = 5 from rfl)]
    have hQ : Q (orN x (orN y (cutL (x.toInt64 + y.toInt64)))) M := hQ
    unfold orN at hQ
    rw [if_neg (hx (by decide)), if_neg (hy (by decide))] at hQ
    exact c9_cut hQ
  · rw [if_neg (show ¬ nI 6 = 1 by decide), if_neg (show ¬ nI 6 = 2 by decide), if_neg (show ¬ nI 6 = 3 by decide), if_neg (show ¬ nI 6 = 4 by decide), if_neg (show ¬ nI 6 = 5 by decide), if_pos (show nI 6 = 6 from rfl)]
    have hQ : Q (orN x (orN y (cutL (x.toInt64 - y.toInt64)))) M := hQ
    unfold orN at hQ
    rw [if_neg (hx (by decide)), if_neg (hy (by decide))] at hQ
    exact c9_cut hQ
  · rw [if_neg (show ¬ nI 7 = 1 by decide), if_neg (show ¬ nI 7 = 2 by decide), if_neg (show ¬ nI 7 = 3 by decide), if_neg (show ¬ nI 7 = 4 by decide), if_neg (show ¬ nI 7 = 5 by decide), if_neg (show ¬ nI 7 = 6 by decide), if_pos (show nI 7 = 7 from rfl)]
    have hQ : Q (orN x (orN y (cutL (x.toInt64 * y.toInt64)))) M := hQ
    unfold orN at hQ
    rw [if_neg (hx (by decide)), if_neg (hy (by decide))] at hQ
    exact c9_cut hQ
  · rw [if_neg (show ¬ nI 8 = 1 by decide), if_neg (show ¬ nI 8 = 2 by decide), if_neg (show ¬ nI 8 = 3 by decide), if_neg (show ¬ nI 8 = 4 by decide), if_neg (show ¬ nI 8 = 5 by decide), if_neg (show ¬ nI 8 = 6 by decide), if_neg (show ¬ nI 8 = 7 by decide), if_pos (show nI 8 = 8 from rfl)]
    obtain ⟨b1, b2, b3, b4⟩ := s5 rfl
    obtain ⟨j, j1, j2, j3⟩ := isD_ix (hsg _ b2) b3
    have hj : j ≠ 0 := fun z => b4 (by rw [j3, z]; rfl)
    have h38 := (hrr.2 q hq (by rw [hc]; decide)).2.2
    rw [h38, s3, if_neg (by decide), if_pos rfl, show nI (E (q + 1) + 1) - 1 = nI (E (q + 1)) from nI_pred _, nI_clamp (n := E (q + 1)) (by omega)]
    have hQ : Q (orN x (x - x / (g (E (q + 1)) - 48) * (g (E (q + 1)) - 48))) M := hQ
    unfold orN at hQ
    rw [if_neg (hx (by decide))] at hQ
    exact ⟨vpT (by omega) (by omega), vpT (by omega) (by omega), by rw [j2]; exact nI_ne0 (by omega) (by omega), hQ⟩
  · rw [if_neg (show ¬ nI 9 = 1 by decide), if_neg (show ¬ nI 9 = 2 by decide), if_neg (show ¬ nI 9 = 3 by decide), if_neg (show ¬ nI 9 = 4 by decide), if_neg (show ¬ nI 9 = 5 by decide), if_neg (show ¬ nI 9 = 6 by decide), if_neg (show ¬ nI 9 = 7 by decide), if_neg (show ¬ nI 9 = 8 by decide)]
    have hQ : Q (orN x (byO x)) M := hQ
    unfold orN at hQ
    rw [if_neg (hx (by decide))] at hQ
    exact c9_byteOf hQ
theorem innr_2 (c : Nat) : innr c ≤ 2 := by
  unfold innr
  repeat' split
  all_goals omega
theorem c9_number {M : Mem} {g : Nat → Int32} {n : Nat} {E : Nat → Nat} (hC : RC M g n E) {q c : Nat} (hq : q < n) (hc : kd g q = c) (h1 : 1 ≤ c) (h9 : c ≤ 9) {Q : Int32 → Mem → Prop} (hQ : Q (evc g E (M.1 (41, 0, 0, 0)) q c (M.1 (40, 0, 0, 0) (q + 1)) (M.1 (40, 0, 0, 0) (E (q + 1)))) M) : w_X9_number (nI q) Q M := by
  have h35 := hC.k35 hq hc (by omega)
  have hCC := hC
  obtain ⟨hn60, -, h29, h34, hn, hs, hsg, hrr⟩ := hC
  have hz : c ≠ 0 := by omega
  obtain ⟨s1, s2, s3, s4, s5, -⟩ := sh hn hs hq hc hz
  obtain ⟨r1, r2, r3⟩ := hrr.2 q hq (by rw [hc]; exact hz)
  rw [hc] at r2
  have hin := innr_2 c
  -- behind the two values
  have tail : ∀ x y : Int32, (1 ≤ innr c → x = M.1 (40, 0, 0, 0) (q + 1)) → (innr c = 2 → y = M.1 (40, 0, 0, 0) (E (q + 1))) → (w_X9_inner (nI c) (fun (r60 : Int32) (M60 : Mem) => (if r60 ≤ 0 then (if r60 ≤ (1 : Int32) then (w_X9_number_91 (nI q) Q x y M60) else (if y = (-2000000 : Int32) then (Q (-2000000 : Int32) M60) else (w_X9_number_91 (nI q) Q x y M60))) else (if x = (-2000000 : Int32) then (Q (-2000000 : Int32) M60) else (if r60 ≤ (1 : Int32) then (w_X9_number_91 (nI q) Q x y M60) else (if y = (-2000000 : Int32) then (Q (-2000000 : Int32) M60) else (w_X9_number_91 (nI q) Q x y M60)))))) M) := by
    intro x y hx hy
    have eQ : Q (evc g E (M.1 (41, 0, 0, 0)) q c x y) M := by
      rw [evc_c (R2 := M.1 (41, 0, 0, 0)) (x2 := M.1 (40, 0, 0, 0) (q + 1)) (y2 := M.1 (40, 0, 0, 0) (E (q + 1))) h1 (by omega) hx hy (fun _ => rfl) (fun _ => rfl)]
      exact hQ
    refine c9_inner h1 (by omega) ?_
    by_cases i0 : innr c = 0
    · rw [i0, if_pos (by decide), if_pos (by decide)]
      exact c9_number_91 hCC hq hc h1 h9 (fun h => by omega) (fun h => by omega) eQ
    rw [if_neg (nI_nle (by omega) (by omega))]
    have nN : ∀ v w : Int32, (v = -2000000 ∨ (innr c = 2 ∧ w = -2000000)) → evc g E (M.1 (41, 0, 0, 0)) q c v w = -2000000 := by
      intro v w hv
      have h : c = 4 ∨ c = 5 ∨ c = 6 ∨ c = 7 ∨ c = 8 ∨ c = 9 := by
        rcases lt9 h1 h9 with h | h | h | h | h | h | h | h | h
        · subst h; exact absurd rfl i0
        · subst h; exact absurd rfl i0
        · subst h; exact absurd rfl i0
        all_goals omega
      have o2 : ∀ z, orN v (orN w z) = -2000000 ∨ ¬ (v = -2000000 ∨ w = -2000000) := fun z => by
        unfold orN
        by_cases a : v = -2000000
        · left; rw [if_pos a]
        · by_cases b : w = -2000000
          · left; rw [if_neg a, if_pos b]
          · right; exact fun h => h.elim a b
      rcases h with h | h | h | h | h | h <;> subst h
      · rcases hv with hv | hv
        · rw [hv]; rfl
        · exact absurd hv.1 (by decide)
      · exact (o2 _).resolve_right (fun h => h (hv.imp id And.right))
      · exact (o2 _).resolve_right (fun h => h (hv.imp id And.right))
      · exact (o2 _).resolve_right (fun h => h (hv.imp id And.right))
      · rcases hv with hv | hv
        · rw [hv]; rfl
        · exact absurd hv.1 (by decide)
      · rcases hv with hv | hv
        · rw [hv]; rfl
        · exact absurd hv.1 (by decide)
    by_cases x1 : x = -2000000
    · rw [if_pos x1]
      rw [nN x y (Or.inl x1)] at eQ
      exact eQ
    rw [if_neg x1]
    by_cases i1 : innr c = 1
    · rw [i1, if_pos (by decide)]
      exact c9_number_91 hCC hq hc h1 h9 (fun _ => x1) (fun h => by omega) eQ
    rw [if_neg (by rw [nI_ler (by omega) (by omega)]; omega)]
    by_cases y1 : y = -2000000
    · rw [if_pos y1]
      rw [nN x y (Or.inr ⟨by omega, y1⟩)] at eQ
      exact eQ
    rw [if_neg y1]
    exact c9_number_91 hCC hq hc h1 h9 (fun _ => x1) (fun _ => y1) eQ
  have n25 : ∀ t, t < 60 → (1 ≤ innr c → t = q + 1) → w_X9_number_25 (nI q) Q (nI t) M := by
    intro t ht hx
    unfold w_X9_number_25
    rw [nI_clamp (n := q) (by omega), nI_clamp (n := t) (by omega), h35]
    have hE60 : ∀ v : Nat, v = (if innr c = 0 then q + 1 else E (q + 1)) → v ≤ 60 := by
      intro v hv
      split at hv
      · omega
      · rename_i h
        have := (s1 (by omega)).1
        obtain ⟨_, _, _, _, z, _⟩ := hs (q + 1) this
        omega
    obtain ⟨v, hv⟩ : ∃ v : Nat, v = (if innr c = 0 then q + 1 else E (q + 1)) := ⟨_, rfl⟩
    have hv60 := hE60 v hv
    rw [r2, ← hv]
    refine ⟨vpT (by omega) (by omega), fun x ex => ⟨vpT (by omega) (by omega), ?_⟩⟩
    by_cases v60 : v = 60
    · rw [if_pos (by rw [nI_lel (by omega) (by omega)]; omega)]
      refine fun y ey => ⟨vpT (by omega) (by omega), tail x y (fun h => by rw [ex, hx h]) (fun h => ?_)⟩
      have := (s2 h).2.1
      rw [if_neg (by omega)] at hv
      omega
    · rw [if_neg (by rw [nI_lel (by omega) (by omega)]; omega), nI_clamp (n := v) (by omega)]
      refine ⟨vpT (by omega) (by omega), vpT (by omega) (by omega), fun y ey => ⟨vpT (by omega) (by omega), tail x y (fun h => by rw [ex, hx h]) (fun h => ?_)⟩⟩
      rw [if_neg (by omega)] at hv
      rw [ey, hv]
  unfold w_X9_number
  rw [nI_clamp (n := q) (by omega), r1]
  refine ⟨vpT (by omega) (by omega), ?_⟩
  by_cases q60 : q + 1 = 60
  · rw [if_pos (by rw [nI_lel (by omega) (by omega)]; omega)]
    refine n25 0 (by omega) (fun h => ?_)
    have := (s1 h).1
    omega
  · rw [if_neg (by rw [nI_lel (by omega) (by omega)]; omega)]
    exact ⟨vpT (by omega) (by omega), n25 (q + 1) (by omega) (fun _ => rfl)⟩
