/-! the question: what may stand, place by place; the relation of the two sides -/
abbrev isL (s : Int32) : Prop := ¬ s < 97 ∧ ¬ 100 < s
abbrev isD (s : Int32) : Prop := ¬ s < 48 ∧ ¬ 57 < s
def trK (s : Int32) : Nat := if s = 60 then 10 else if s = 61 then 11 else if s = 38 then 12 else if s = 124 then 13 else if s = 33 then 14 else if s = 109 then 15 else 0
def tmK (s : Int32) : Nat := if isL s then 1 else if isD s then 2 else if s = 35 then 3 else if s = 126 then 4 else if s = 43 then 5 else if s = 45 then 6 else if s = 42 then 7 else if s = 37 then 8 else if s = 121 then 9 else 0
def knd (r : Nat) (s : Int32) : Nat := if r = 1 then trK s else if r = 2 then tmK s else if r = 3 then (if isL s then 16 else 0) else if r = 4 then (if isD s then 17 else 0) else if isD s ∧ s ≠ 48 then 18 else 0
def psh (k : Nat) : List Nat := if k = 3 then [4, 4, 4] else if k = 4 ∨ k = 9 then [2] else if k = 5 ∨ k = 6 ∨ k = 7 ∨ k = 10 ∨ k = 11 then [2, 2] else if k = 8 then [2, 5] else if k = 12 ∨ k = 13 then [1, 1] else if k = 14 then [1] else if k = 15 then [3] else []
def stk (g : Nat → Int32) : Nat → Option (List Nat)
  | 0 => some [1]
  | k + 1 => match stk g k with
    | some (r :: T) => if knd r (g k) = 0 then none else some (psh (knd r (g k)) ++ T)
    | _ => none
def eqE (E : Nat → Nat) (k c : Nat) : Nat := if c = 3 then k + 4 else if (psh c).length = 0 then k + 1 else if (psh c).length = 1 then E (k + 1) else E (E (k + 1))
/-- the parts of a question without fault -/
def SQ (g : Nat → Int32) (n : Nat) (E : Nat → Nat) : Prop := ∀ k, k < n → ∃ r T, stk g k = some (r :: T) ∧ k < E k ∧ E k ≤ n ∧ stk g (E k) = some T ∧ E k = eqE E k (knd r (g k))
def numOK (v : Int32) (g : Nat → Int32) (E : Nat → Nat) (k c : Nat) : Prop := (c = 3 → v = 100 * (g (k + 1) - 48) + 10 * (g (k + 2) - 48) + (g (k + 3) - 48)) ∧ (c = 8 → v = g (E (k + 1)) - 48) ∧ (c = 2 → v = g k - 48)
def stkA (A : Nat → Int32) : List Nat → Prop
  | [] => True
  | r :: T => A T.length = nI r ∧ stkA A T
def QOK (M : Mem) (g : Nat → Int32) (n : Nat) : Prop := ∃ E, SQ g n E ∧ ∀ k, k < n → M.1 (16, 0, 0, 0) k = nI (E k) ∧ (k + 1 < n → M.1 (14, 0, 0, 0) k = nI (E (k + 1))) ∧ ∀ r T, stk g k = some (r :: T) → numOK (M.1 (15, 0, 0, 0) k) g E k (knd r (g k))
def QI (M : Mem) (g : Nat → Int32) (n : Nat) : Prop := M.1 (11, 0, 0, 0) 0 = nI n ∧ M.1 (12, 0, 0, 0) = g ∧ (∀ i, i < n → ∃ m, 33 ≤ m ∧ m < 127 ∧ g i = nI m) ∧ ((∃ S, stk g n = some S ∧ M.1 (11, 0, 0, 0) 8 = -2000000 ∧ M.1 (11, 0, 0, 0) 7 = nI S.length ∧ stkA (M.1 (17, 0, 0, 0)) S ∧ (∀ k, k < n → ∃ r T, stk g k = some (r :: T) ∧ M.1 (13, 0, 0, 0) k = nI r) ∧ (S = [] → QOK M g n)) ∨ ∃ w S, w < n ∧ stk g w = some S ∧ stk g (w + 1) = none ∧ M.1 (11, 0, 0, 0) 8 = nI w)
def RelQ (M : Mem) : Prop := ∃ n, n ≤ 60 ∧ M.1 (29, 0, 0, 0) 4 = nI n ∧ QI M (M.1 (34, 0, 0, 0)) n
def RelS (M : Mem) : Prop := ∃ mn : Nat → Nat, ∀ b, b < 6 → M.1 (31, 0, 0, 0) b = nI (mn b) ∧ RB M 0 b (M.1 (30, 0, 0, 0)) (M.1 (32, 0, 0, 0)) (mn b) ∧ PB (M.1 (30, 0, 0, 0)) (M.1 (32, 0, 0, 0)) b (mn b)
def img (f : Nat → Int32) (o : Nat) : Nat → Int32 := fun j => f (o + j)
def RelI (M : Mem) : Prop := ∀ n, n < 2 → (M.1 (10, 0, 0, 0) n = 0 ↔ M.1 (46, 0, 0, 0) n = 0) ∧ (¬ M.1 (10, 0, 0, 0) n = 0 → ∃ mn : Nat → Nat, ∀ b, b < 6 → M.1 (45, 0, 0, 0) (500 * n + 480 + b) = nI (mn b) ∧ RB M (n + 1) b (img (M.1 (45, 0, 0, 0)) (500 * n)) (img (M.1 (45, 0, 0, 0)) (500 * n + 192)) (mn b) ∧ PB (img (M.1 (45, 0, 0, 0)) (500 * n)) (img (M.1 (45, 0, 0, 0)) (500 * n + 192)) b (mn b))
def Rel (M : Mem) : Prop := RelS M ∧ RelI M ∧ RelQ M
/-! what the relation looks at -/
def inS (i : ix) : Prop := i.1 = 3 ∨ i.1 = 5 ∨ ((i.1 = 7 ∨ i.1 = 8 ∨ i.1 = 9) ∧ i.2.2.2 < 4)
theorem RSum.kp {M M1 : Mem} {s b c k : Nat} {f : Nat → Int32} (h : ∀ i, inS i → i.2.1 = s → M1.1 i = M.1 i) (hc : c < 4) (hR : RSum M s b c f k) : RSum M1 s b c f k :=
  hR.keep (h _ (Or.inr (Or.inr ⟨Or.inl rfl, hc⟩)) rfl) (h _ (Or.inr (Or.inr ⟨Or.inr (Or.inl rfl), hc⟩)) rfl) (h _ (Or.inr (Or.inr ⟨Or.inr (Or.inr rfl), hc⟩)) rfl)
theorem RB.kp {M M1 : Mem} {s b n : Nat} {rr kn : Nat → Int32} (h : ∀ i, inS i → i.2.1 = s → M1.1 i = M.1 i) (hB : RB M s b rr kn n) : RB M1 s b rr kn n := by
  obtain ⟨h3, hn, h5, h7⟩ := hB
  exact ⟨by rw [h _ (Or.inl rfl) rfl]; exact h3, hn, fun r c hr hc => by rw [h _ (Or.inr (Or.inl rfl)) rfl]; exact h5 r c hr hc, fun c hc => (h7 c hc).kp h hc⟩
theorem RelS.kp {M M1 : Mem} (h : ∀ i, inS i → i.2.1 = 0 → M1.1 i = M.1 i) (h2 : ∀ i : ix, i.1 = 30 ∨ i.1 = 31 ∨ i.1 = 32 → M1.1 i = M.1 i) (hR : RelS M) : RelS M1 := by
  obtain ⟨mn, hR⟩ := hR
  refine ⟨mn, fun b hb => ?_⟩
  rw [h2 (30, 0, 0, 0) (Or.inl rfl), h2 (31, 0, 0, 0) (Or.inr (Or.inl rfl)), h2 (32, 0, 0, 0) (Or.inr (Or.inr rfl))]
  exact ⟨(hR b hb).1, (hR b hb).2.1.kp h, (hR b hb).2.2⟩
theorem RelI.kp {M M1 : Mem} (h : ∀ i, inS i → 1 ≤ i.2.1 → M1.1 i = M.1 i) (h2 : ∀ i : ix, i.1 = 10 ∨ i.1 = 45 ∨ i.1 = 46 → M1.1 i = M.1 i) (hR : RelI M) : RelI M1 := by
  intro n hn
  rw [h2 (10, 0, 0, 0) (Or.inl rfl), h2 (45, 0, 0, 0) (Or.inr (Or.inl rfl)), h2 (46, 0, 0, 0) (Or.inr (Or.inr rfl))]
  refine ⟨(hR n hn).1, fun h0 => ?_⟩
  obtain ⟨mn, hx⟩ := (hR n hn).2 h0
  exact ⟨mn, fun b hb => ⟨(hx b hb).1, (hx b hb).2.1.kp (fun i hi e => h i hi (by omega)), (hx b hb).2.2⟩⟩
theorem QI.kp {M M1 : Mem} {g : Nat → Int32} {n : Nat} (h : ∀ i : ix, 11 ≤ i.1 → i.1 ≤ 17 → M1.1 i = M.1 i) (hR : QI M g n) : QI M1 g n := by
  unfold QI QOK at hR ⊢
  rw [h (11, 0, 0, 0) (by simp) (by simp), h (12, 0, 0, 0) (by simp) (by simp), h (13, 0, 0, 0) (by simp) (by simp), h (14, 0, 0, 0) (by simp) (by simp), h (15, 0, 0, 0) (by simp) (by simp), h (16, 0, 0, 0) (by simp) (by simp), h (17, 0, 0, 0) (by simp) (by simp)]
  exact hR
theorem RelQ.kp {M M1 : Mem} (h : ∀ i : ix, 11 ≤ i.1 → i.1 ≤ 17 → M1.1 i = M.1 i) (h2 : ∀ i : ix, i.1 = 29 ∨ i.1 = 34 → M1.1 i = M.1 i) (hR : RelQ M) : RelQ M1 := by
  obtain ⟨n, hn, h1, hq⟩ := hR
  refine ⟨n, hn, ?_, ?_⟩
  · rw [h2 (29, 0, 0, 0) (Or.inl rfl)]; exact h1
  · rw [h2 (34, 0, 0, 0) (Or.inr rfl)]; exact hq.kp h
/-- a look: nothing of the relation is written -/
def look (M M1 : Mem) : Prop := ∀ i : ix, (inS i ∨ (10 ≤ i.1 ∧ i.1 ≤ 17) ∨ (29 ≤ i.1 ∧ i.1 ≤ 32) ∨ i.1 = 34 ∨ i.1 = 45 ∨ i.1 = 46) → M1.1 i = M.1 i
theorem look.rf {M : Mem} : look M M := fun _ _ => rfl
theorem look.tr {M M1 M2 : Mem} (h : look M M1) (h2 : look M1 M2) : look M M2 := fun i hi => (h2 i hi).trans (h i hi)
theorem Rel.look {M M1 : Mem} (h : look M M1) (hR : Rel M) : Rel M1 := by
  refine ⟨hR.1.kp (fun i hi _ => h i (Or.inl hi)) (fun i hi => h i (by omega)), hR.2.1.kp (fun i hi _ => h i (Or.inl hi)) (fun i hi => h i (by omega)), hR.2.2.kp (fun i hi hi2 => h i (by omega)) (fun i hi => h i (by omega))⟩
/-- what an operation of the class must lead to -/
def OPK (w9 : (Int32 → Mem → Prop) → Mem → Prop) (M : Mem) (r : Int32) (M1 : Mem) : Prop := M1.1 (10, 0, 0, 0) = M.1 (10, 0, 0, 0) ∧ ∀ Q : Int32 → Mem → Prop, (∀ M2, M2.1 (10, 0, 0, 0) = M1.1 (10, 0, 0, 0) → Rel M2 → Q r M2) → w9 Q M1
