/-! sets of cells that come together, with what they hold at first -/
noncomputable def cif {α : Type} (P : Prop) (a b : α) : α := @ite α P (Classical.propDecidable P) a b
theorem cif_pos {α : Type} {P : Prop} {a b : α} (h : P) : cif P a b = a := by unfold cif; exact if_pos h
theorem cif_neg {α : Type} {P : Prop} {a b : α} (h : ¬ P) : cif P a b = b := by unfold cif; exact if_neg h
theorem cif_congr {α : Type} {P P2 : Prop} {a b : α} (h : P ↔ P2) : cif P a b = cif P2 a b := by rw [propext h]
theorem cif_cif {α : Type} {P P2 : Prop} {a b : α} : cif P2 a (cif P a b) = cif (P ∨ P2) a b := by
  by_cases h : P
  · by_cases h2 : P2
    · rw [cif_pos h2, cif_pos (Or.inl h)]
    · rw [cif_neg h2, cif_pos h, cif_pos (Or.inl h)]
  · by_cases h2 : P2
    · rw [cif_pos h2, cif_pos (Or.inr h2)]
    · rw [cif_neg h2, cif_neg h, cif_neg (fun q => q.elim h h2)]
/-- the numbers that a cell has at first -/
def m0 (i : ix) : Nat → Int32 := match i.1 with
  | 7 => fun k => if k = 0 ∨ k = 1 then -2000000 else 0
  | 11 => fun k => if k = 7 then 1 else if k = 8 then -2000000 else 0
  | 17 => fun k => if k = 0 then 1 else 0
  | 28 => fun k => if k = 0 ∨ k = 1 then -2000000 else 0
  | 32 => fun k => if k < 288 ∧ k % 12 < 2 then -2000000 else 0
  | _ => fun _ => 0
/-- what a cell refers to (images: nothing at first) -/
def f0 (i : ix) : Nat → Option ix := match i with
  | (k, s, b, c) => match k with
    | 0 => fun q => if q = 0 then some (1, 0, 0, 0) else if q = 1 then some (10, 0, 0, 0) else if q = 2 then some (11, 0, 0, 0) else if q = 3 then some (18, 0, 0, 0) else if q = 4 then some (20, 0, 0, 0) else if q = 5 then some (24, 0, 0, 0) else if q = 6 then some (25, 0, 0, 0) else if q = 7 then some (26, 0, 0, 0) else if q = 8 then some (28, 0, 0, 0) else none
    | 1 => fun q => if q = 0 then some (2, s, 0, 0) else none
    | 2 => fun q => if q < 6 then some (3, s, q, 0) else none
    | 3 => fun q => if q = 1 then some (4, s, b, 0) else if q = 2 then some (6, s, b, 0) else if q = 3 then some (7, s, b, 4) else none
    | 4 => fun q => if q < 8 then some (5, s, b, q) else none
    | 6 => fun q => if q < 4 then some (7, s, b, q) else none
    | 7 => fun q => if q = 5 then some (8, s, b, c) else if q = 6 then some (9, s, b, c) else none
    | 11 => fun q => if 1 ≤ q ∧ q ≤ 6 then some (11 + q, 0, 0, 0) else none
    | 18 => fun q => if q = 0 then some (11, 0, 0, 0) else if q = 1 then some (19, 0, 0, 0) else none
    | 20 => fun q => if q = 0 then some (21, 0, 0, 0) else if q = 1 then some (22, 0, 0, 0) else if q = 2 then some (23, 0, 0, 0) else if q = 3 then some (11, 0, 0, 0) else none
    | 26 => fun q => if q = 1 then some (27, 0, 0, 0) else none
    | 29 => fun q => if q ≤ 3 then some (30 + q, 0, 0, 0) else if 5 ≤ q ∧ q ≤ 17 then some (29 + q, 0, 0, 0) else none
    | _ => fun _ => none
def jU (J I : ix → Prop) : ix → Prop := fun i => J i ∨ I i
noncomputable def jM (J : ix → Prop) (M : Mem) : Mem := (fun i => cif (J i) (m0 i) (M.1 i), M.2)
noncomputable def jF (J : ix → Prop) (F : Fm) : Fm := fun i => cif (J i) (f0 i) (F i)
def jO (i : ix) : ix → Prop := fun j => j = i
/-- a summary's cells; a block's; a store's -/
def jS (s b c : Nat) : ix → Prop := fun i => i = (7, s, b, c) ∨ i = (8, s, b, c) ∨ i = (9, s, b, c)
def jB (s b : Nat) : ix → Prop := fun i => i = (3, s, b, 0) ∨ i = (4, s, b, 0) ∨ (∃ r, r < 8 ∧ i = (5, s, b, r)) ∨ i = (6, s, b, 0) ∨ ∃ c, c < 5 ∧ jS s b c i
def jT (s : Nat) : ix → Prop := fun i => i = (1, s, 0, 0) ∨ i = (2, s, 0, 0) ∨ ∃ b, b < 6 ∧ jB s b i
def jK (a n : Nat) : ix → Prop := fun i => ∃ k, a ≤ k ∧ k < a + n ∧ i = (k, 0, 0, 0)
theorem jM_jM (J J2 : ix → Prop) (M : Mem) : jM J2 (jM J M) = jM (fun i => J i ∨ J2 i) M := by
  refine Prod.ext (funext fun i => ?_) rfl
  exact cif_cif
theorem jM_at {J : ix → Prop} {M : Mem} {i : ix} (h : J i) : (jM J M).1 i = m0 i := cif_pos h
theorem jM_ne {J : ix → Prop} {M : Mem} {i : ix} (h : ¬ J i) : (jM J M).1 i = M.1 i := cif_neg h
theorem jF_at {J : ix → Prop} {F : Fm} {i : ix} (h : J i) : jF J F i = f0 i := cif_pos h
theorem jF_ne {J : ix → Prop} {F : Fm} {i : ix} (h : ¬ J i) : jF J F i = F i := cif_neg h
/-- one cell that is as at first -/
theorem jM_one {M : Mem} {i : ix} (h : m0 i = fun _ => 0) : mr M i (fun _ => 0) = jM (jO i) M := by
  refine Prod.ext (funext fun j => ?_) rfl
  show (if j = i then _ else _) = cif (j = i) _ _
  by_cases e : j = i
  · subst e; rw [if_pos rfl, cif_pos rfl, h]
  · rw [if_neg e, cif_neg e]
theorem jF_one {F : Fm} {i : ix} (h : f0 i = fun _ => none) : nF F i = jF (jO i) F := by
  funext j
  show (if j = i then _ else _) = cif (j = i) _ _
  by_cases e : j = i
  · subst e; rw [if_pos rfl, cif_pos rfl, h]
  · rw [if_neg e, cif_neg e]
/-- a root that came blank, then its set -/
theorem jM_root {J : ix → Prop} {M : Mem} {i : ix} (h : J i) : jM J (mr M i (fun _ => 0)) = jM J M := by
  refine Prod.ext (funext fun j => ?_) rfl
  show cif (J j) _ _ = cif (J j) _ _
  by_cases e : J j
  · rw [cif_pos e, cif_pos e]
  · rw [cif_neg e, cif_neg e]
    exact if_neg (fun q => e (by rw [q]; exact h))
theorem jF_root {J : ix → Prop} {F : Fm} {i : ix} (h : J i) : jF J (nF F i) = jF J F := by
  funext j
  show cif (J j) _ _ = cif (J j) _ _
  by_cases e : J j
  · rw [cif_pos e, cif_pos e]
  · rw [cif_neg e, cif_neg e]
    exact if_neg (fun q => e (by rw [q]; exact h))
theorem jU_root {J I : ix → Prop} {i : ix} (h : J i) : ∀ j, jU J I j ↔ jU J (iI I i) j := fun j => ⟨fun q => q.elim Or.inl (fun q => Or.inr (Or.inr q)), fun q => q.elim Or.inl (fun q => q.elim (fun e => Or.inl (by rw [e]; exact h)) Or.inr)⟩
theorem w2.toJ {G : GG} {I : ix → Prop} {ad : ix → Nat} {M : Mem} {F : Fm} {H : Heap} {i : ix} (h : w2 G (iI I i) ad (mr M i (fun _ => 0)) (nF F i) H) (h1 : m0 i = fun _ => 0) (h2 : f0 i = fun _ => none) : w2 G (jU (jO i) I) ad (jM (jO i) M) (jF (jO i) F) H := by
  rw [← jM_one h1, ← jF_one h2]
  exact h
theorem w2.root {G : GG} {I J : ix → Prop} {ad : ix → Nat} {M : Mem} {F : Fm} {H : Heap} {i : ix} (h : w2 G (jU J (iI I i)) ad (jM J (mr M i (fun _ => 0))) (jF J (nF F i)) H) (hJ : J i) : w2 G (jU J I) ad (jM J M) (jF J F) H := by
  rw [jM_root hJ, jF_root hJ] at h
  exact h.congr (jU_root hJ) (fun _ _ => rfl) rfl (fun _ _ => rfl)
/-- the end of a constructor: the cells that came, and the root that was there -/
theorem w2.fin {G : GG} {I Ic J : ix → Prop} {ad : ix → Nat} {M Mc : Mem} {F Fc : Fm} {H : Heap} {i : ix} (h : w2 G Ic ad Mc Fc H) (hI : ∀ j, jU J I j ↔ Ic j) (hfr : ∀ j, I j → J j → j = i) (hM : ∀ j, J j → Mc.1 j = m0 j) (hM2 : ∀ j, I j → ¬ J j → Mc.1 j = M.1 j) (hw : Mc.2 = M.2) (hF : ∀ j, J j → Fc j = f0 j) (hF2 : ∀ j, I j → ¬ J j → Fc j = F j) : w2 G (jU J I) ad (jM J M) (jF J F) H := by
  refine h.congr hI (fun j hj => ?_) hw.symm (fun j hj => ?_)
  · by_cases e : J j
    · rw [jM_at e, hM j e]
    · rw [jM_ne e, hM2 j (((hI j).mpr hj).resolve_left e) e]
  · by_cases e : J j
    · rw [jF_at e, hF j e]
    · rw [jF_ne e, hF2 j (((hI j).mpr hj).resolve_left e) e]
