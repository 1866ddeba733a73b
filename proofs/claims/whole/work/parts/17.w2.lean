/-! worlds that grow: what refers is a memory too (for constructors) -/
abbrev Fm : Type := ix → Nat → Option ix
/-- what the cell of an index holds, by its numbers r, w, and by the addresses g that it refers to -/
def p2 (G : GG) (i : ix) (r : Nat → Int32) (w : Nat → Int64) (g : Nat → Option Nat) : va_E := match i.1 with
  | 0 => .inr (8, [va_rf (g 0), va_rf (g 1), va_rf (g 2), va_rf (g 3), va_rf (g 4), va_rf (g 5), va_rf (g 6), va_rf (g 7), va_rf (g 8)])
  | 1 => .inr (5, [va_rf (g 0)])
  | 2 => arR (G.2 3) 6 g
  | 3 => .inr (0, [.int (r 0), va_rf (g 1), va_rf (g 2), va_rf (g 3)])
  | 4 => arR (G.2 6) 8 g
  | 6 => arR (G.2 5) 4 g
  | 7 => .inr (6, [.int (r 0), .int (r 1), .int (r 2), .int (r 3), .int (r 4), va_rf (g 5), va_rf (g 6)])
  | 10 => arR (G.2 4) 2 g
  | 11 => .inr (1, [.int (r 0), va_rf (g 1), va_rf (g 2), va_rf (g 3), va_rf (g 4), va_rf (g 5), va_rf (g 6), .int (r 7), .int (r 8)])
  | 18 => .inr (3, [va_rf (g 0), va_rf (g 1)])
  | 20 => .inr (2, [va_rf (g 0), va_rf (g 1), va_rf (g 2), va_rf (g 3)])
  | 26 => .inr (4, [.int (r 0), va_rf (g 1)])
  | 29 => .inr (9, [va_rf (g 0), va_rf (g 1), va_rf (g 2), va_rf (g 3), .int (r 4), va_rf (g 5), va_rf (g 6), va_rf (g 7), va_rf (g 8), va_rf (g 9), va_rf (g 10), va_rf (g 11), va_rf (g 12), va_rf (g 13), va_rf (g 14), va_rf (g 15), va_rf (g 16), va_rf (g 17)])
  | _ => pc_ G (fun _ => 0) i r w
def adr (ad : ix → Nat) (f : Nat → Option ix) : Nat → Option Nat := fun k => (f k).map ad
def w2 (G : GG) (I : ix → Prop) (ad : ix → Nat) (M : Mem) (F : Fm) (H : Heap) : Prop :=
  (∀ i, I i → va_at G.1 vwCl (ad i, p2 G i (M.1 i) M.2 (adr ad (F i))) H) ∧ (∀ i j, I i → I j → ad i = ad j → i = j) ∧ ∀ i, I i → ∀ k r, F i k = some r → I r
def iI (I : ix → Prop) (i : ix) : ix → Prop := fun j => j = i ∨ I j
def nF (F : Fm) (i : ix) : Fm := fun j => if j = i then fun _ => none else F j
def fu (F : Fm) (i : ix) (k : Nat) (r : ix) : Fm := fun j => if j = i then (fun q => if q = k then some r else F i q) else F j
theorem adr_congr {ad ad2 : ix → Nat} {f : Nat → Option ix} (h : ∀ k r, f k = some r → ad2 r = ad r) : adr ad2 f = adr ad f := by
  funext k
  unfold adr
  cases hf : f k with
  | none => rfl
  | some r => simp [h k r hf]
/-- a cell comes -/
theorem w2.grow {G : GG} {I : ix → Prop} {ad : ix → Nat} {M : Mem} {F : Fm} {H H1 : Heap} (h : w2 G I ad M F H) {i : ix} (hi : ¬ I i) {w : Nat → Int64} (hw : i.1 = 27 ∨ w = M.2) (h27 : i.1 = 27 → ∀ j, I j → j.1 ≠ 27) (he : va_at G.1 vwCl (H.size, p2 G i (fun _ => 0) w (fun _ => none)) H1) (o1 : ∀ q, q < H.size → H1[q]? = H[q]?) :
    w2 G (iI I i) (fun j => if j = i then H.size else ad j) ((mr M i (fun _ => 0)).1, w) (nF F i) H1 := by
  have hne : ∀ j, I j → j ≠ i := fun j hj e => hi (e ▸ hj)
  refine ⟨fun j hj => ?_, fun a b ha hb e => ?_, fun j hj k r hr => ?_⟩
  · rcases hj with rfl | hj
    · have e0 : adr (fun q => if q = j then H.size else ad q) (nF F j j) = fun _ => none := by
        funext k
        simp [adr, nF]
      have e1 : ((mr M j (fun _ => 0)).1, w).1 j = fun _ => 0 := by simp [mr]
      rw [e0, e1]
      simpa using he
    · have hn := hne j hj
      have e0 : nF F i j = F j := by simp [nF, hn]
      have e1 : ((mr M i (fun _ => 0)).1, w).1 j = M.1 j := by simp [mr, hn]
      rw [e0, e1, adr_congr (ad := ad) (fun k r hr => by simp [hne r (h.2.2 j hj k r hr)])]
      have hk := (h.1 j hj).kept (o1 (ad j) (h.1 j hj).lt)
      have e2 : p2 G j (M.1 j) w (adr ad (F j)) = p2 G j (M.1 j) M.2 (adr ad (F j)) := by
        rcases hw with hw | hw
        · have h0 : j.1 ≠ 27 := h27 hw j hj
          unfold p2
          split <;> first | rfl | exact pc_w h0
        · rw [hw]
      simp only [hn, if_false]
      rw [e2]
      exact hk
  · rcases ha with rfl | ha <;> rcases hb with rfl | hb
    · rfl
    · exfalso
      have := (h.1 b hb).lt
      simp [hne b hb] at e
      simp at this
      omega
    · exfalso
      have := (h.1 a ha).lt
      simp [hne a ha] at e
      simp at this
      omega
    · simp [hne a ha, hne b hb] at e
      exact h.2.1 a b ha hb e
  · rcases hj with rfl | hj
    · simp [nF] at hr
    · simp [nF, hne j hj] at hr
      exact Or.inr (h.2.2 j hj k r hr)
/-- a cell of the world changes what it refers to -/
theorem w2.link {G : GG} {I : ix → Prop} {ad : ix → Nat} {M : Mem} {F : Fm} {H H1 : Heap} (h : w2 G I ad M F H) {i r : ix} (hi : I i) (hr : I r) {k : Nat} (he : va_at G.1 vwCl (ad i, p2 G i (M.1 i) M.2 (adr ad (fu F i k r i))) H1) (oq : ∀ q, q ≠ ad i → H1[q]? = H[q]?) : w2 G I ad M (fu F i k r) H1 := by
  refine ⟨fun j hj => ?_, h.2.1, fun j hj q z hz => ?_⟩
  · by_cases e : j = i
    · subst e; exact he
    · have e0 : fu F i k r j = F j := by simp [fu, e]
      rw [e0]
      exact (h.1 j hj).kept (oq (ad j) (fun z => e (h.2.1 j i hj hi z)))
  · by_cases e : j = i
    · subst e
      simp only [fu, if_true] at hz
      split at hz
      · cases hz; exact hr
      · exact h.2.2 j hj q z hz
    · simp [fu, e] at hz
      exact h.2.2 j hj q z hz
theorem adr_fu {ad : ix → Nat} {F : Fm} {i r : ix} {k : Nat} : adr ad (fu F i k r i) = va_up (adr ad (F i)) k (some (ad r)) := by
  funext q
  by_cases e : q = k
  · simp [adr, fu, va_up, e]
  · simp [adr, fu, va_up, e]
/-- the same numbers and references where the world is -/
theorem w2.congr {G : GG} {I I2 : ix → Prop} {ad : ix → Nat} {M M2 : Mem} {F F2 : Fm} {H : Heap} (h : w2 G I ad M F H) (hI : ∀ i, I2 i ↔ I i) (hM : ∀ i, I i → M2.1 i = M.1 i) (hw : M2.2 = M.2) (hF : ∀ i, I i → F2 i = F i) : w2 G I2 ad M2 F2 H := by
  refine ⟨fun i hi => ?_, fun a b ha hb e => h.2.1 a b ((hI a).mp ha) ((hI b).mp hb) e, fun i hi k r hr => ?_⟩
  · have := (hI i).mp hi
    rw [hM i this, hw, hF i this]
    exact h.1 i this
  · have hi := (hI i).mp hi
    rw [hF i hi] at hr
    exact (hI r).mpr (h.2.2 i hi k r hr)
