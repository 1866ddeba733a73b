/-- a set of cells comes -/
theorem w2.growJ {G : GG} {I J : ix → Prop} {ad : ix → Nat} {M : Mem} {F : Fm} {H H1 : Heap} (h : w2 G I ad M F H) (hfr : ∀ i, I i → ¬ J i) (ad2 : ix → Nat) (hext : ∀ i, I i → ad2 i = ad i) (hnew : ∀ i, J i → va_at G.1 vwCl (ad2 i, p2 G i (m0 i) M.2 (adr ad2 (f0 i))) H1) (hge : ∀ i, J i → H.size ≤ ad2 i) (hinj : ∀ i j, J i → J j → ad2 i = ad2 j → i = j) (hclo : ∀ i, J i → ∀ k r, f0 i k = some r → jU J I r) (o1 : ∀ q, q < H.size → H1[q]? = H[q]?) : w2 G (jU J I) ad2 (jM J M) (jF J F) H1 := by
  have hlt : ∀ i, I i → ad2 i < H.size := fun i hi => by rw [hext i hi]; exact (h.1 i hi).lt
  refine ⟨fun i hi => ?_, fun a b ha hb e => ?_, fun i hi k r hr => ?_⟩
  · by_cases e : J i
    · rw [jM_at e, jF_at e]
      exact hnew i e
    · have hi := hi.resolve_left e
      rw [jM_ne e, jF_ne e, adr_congr (ad := ad) (fun k r hr => hext r (h.2.2 i hi k r hr)), hext i hi]
      exact (h.1 i hi).kept (o1 _ (h.1 i hi).lt)
  · rcases ha with ha | ha <;> rcases hb with hb | hb
    · exact hinj a b ha hb e
    · have h1 := hge a ha; have h2 := hlt b hb; omega
    · have h1 := hge b hb; have h2 := hlt a ha; omega
    · rw [hext a ha, hext b hb] at e
      exact h.2.1 a b ha hb e
  · by_cases e : J i
    · rw [jF_at e] at hr
      exact hclo i e k r hr
    · rw [jF_ne e] at hr
      exact Or.inr (h.2.2 i (hi.resolve_left e) k r hr)
def jC (s b : Nat) : ix → Prop := fun i => i = (4, s, b, 0) ∨ ∃ r, r < 8 ∧ i = (5, s, b, r)
section RM
variable {p : Program} {l : Launch} {e : Env} {R : Room} {s : State} {m : MethodId} {args : Array Value} {below : List Frame} {meth : Method} {c : Code} {H : Heap} {locs : List Loc} {cells slots : Nat} {Q : State → Prop}
variable {cc : ByteArray} {pc nL index : Nat} {ls : Array Slot} {rest : List Value} {rt : Option FieldType} {own : String} {G : GG} {I : ix → Prop} {ad : ix → Nat} {M : Mem} {F : Fm} {i j : ix} {A : Nat → Prop}
theorem r2_mna {s0 b0 : Nat} (C : cx p s m args meth c cc nL rt own G) (haK : aK s) (hP : w2 G I ad M F H) (hS : va_S A s.heap H locs) (hfr : ∀ i, I i → ¬ jC s0 b0 i) (hcl : Cond.classLink own index "[[I" ∈ WG) (harr : Cond.arrayClass .int ∈ WG) {n k : Int32} (hn : ¬ n < 0) (hk : ¬ k < 0) (hN : n.toNatClampNeg = 8) (hK8 : k.toNatClampNeg = 4) (hcells : cells + (1 + 8) ≤ R.cells) (hslots : slots + (8 + 8 * 4) ≤ R.slots) (hdg : decode cc pc = .ok (.multianewarray index 2, 4))
    (kk : ∀ (q : Nat) (ad2 : ix → Nat) (H1 : Heap), ad2 (4, s0, b0, 0) = q → (∀ j, I j → ad2 j = ad j) → (∀ j, jC s0 b0 j → s.heap.size ≤ ad2 j) → w2 G (jU (jC s0 b0) I) ad2 (jM (jC s0 b0) M) (jF (jC s0 b0) F) H1 → va_S A s.heap H1 locs → W p l e R s m args below meth c H1 locs (cells + 1 + 8) (slots + 8 + 8 * 4) Q (F0 m (pc + 4) ls (.ref q :: rest))) : W p l e R s m args below meth c H locs cells slots Q (F0 m pc ls (.int k :: .int n :: rest)) := by
  obtain ⟨hx, hb, -, hown, hts, -, -, hK, -⟩ := C
  refine g_mna hx hb hown (hts _ hcl) haK.2.2.2 (hts _ harr) hn hk hN hK8 (Nat.le_of_ble_eq_true rfl) (Nat.le_of_ble_eq_true rfl) (Nat.le_of_ble_eq_true rfl) hcells hslots hdg fun H1 cA cy f1 f2 e1 e2 o1 z1 => ?_
  have hcA : cA = G.2 6 := Option.some.inj (f1.symm.trans (hK.2 6 _ rfl).2)
  have hcy : cy = G.2 0 := Option.some.inj (f2.symm.trans (hK.2 0 _ rfl).2)
  subst hcA hcy
  have hz0 : s.heap.size ≤ H.size := hS.1
  refine kk H.size (fun q => if q = (4, s0, b0, 0) then H.size else if q.1 = 5 ∧ q.2.1 = s0 ∧ q.2.2.1 = b0 ∧ q.2.2.2 < 8 then H.size + 1 + q.2.2.2 else ad q) H1 (if_pos rfl) (fun j hj => ?_) (fun j hj => ?_) (hP.growJ hfr _ (fun j hj => ?_) (fun j hj => ?_) (fun j hj => ?_) (fun a b ha hb e => ?_) (fun j hj k2 r hr => ?_) o1) (vaS_push (q := 1 + 8) hS (by omega) o1)
  · have h := hfr j hj
    rw [if_neg (fun q => h (Or.inl q)), if_neg (fun q => h (Or.inr ⟨j.2.2.2, q.2.2.2, by obtain ⟨a1, a2, a3, a4⟩ := j; obtain ⟨q1, q2, q3, -⟩ := q; dsimp only at q1 q2 q3 ⊢; rw [q1, q2, q3]⟩))]
  · rcases hj with rfl | ⟨r, hr, rfl⟩
    · simpa using hz0
    · simp [hr]; omega
  · have h := hfr j hj
    rw [if_neg (fun q => h (Or.inl q)), if_neg (fun q => h (Or.inr ⟨j.2.2.2, q.2.2.2, by obtain ⟨a1, a2, a3, a4⟩ := j; obtain ⟨q1, q2, q3, -⟩ := q; dsimp only at q1 q2 q3 ⊢; rw [q1, q2, q3]⟩))]
  · rcases hj with rfl | ⟨r, hr, rfl⟩
    · have e3 : adr (fun q => if q = (4, s0, b0, 0) then H.size else if q.1 = 5 ∧ q.2.1 = s0 ∧ q.2.2.1 = b0 ∧ q.2.2.2 < 8 then H.size + 1 + q.2.2.2 else ad q) (f0 (4, s0, b0, 0)) = fun i => if i < 8 then some (H.size + 1 + i) else none := by
        funext q
        show Option.map _ (if q < 8 then some (5, s0, b0, q) else none) = _
        by_cases hq : q < 8
        · simp [hq]
        · simp [hq]
      rw [e3]
      rw [if_pos rfl]
      exact e1
    · simp [hr]
      exact e2 r hr
  · rcases hj with rfl | ⟨r, hr, rfl⟩
    · simp
    · simp [hr]; omega
  · rcases ha with rfl | ⟨r, hr, rfl⟩ <;> rcases hb with rfl | ⟨r2, hr2, rfl⟩
    · rfl
    · simp [hr2] at e; omega
    · simp [hr] at e; omega
    · simp [hr, hr2] at e; rw [e]
  · rcases hj with rfl | ⟨r2, hr2, rfl⟩
    · have hr : (if k2 < 8 then some (5, s0, b0, k2) else none) = some r := hr
      split at hr
      · cases hr; exact Or.inl (Or.inr ⟨k2, by assumption, rfl⟩)
      · cases hr
    · cases hr
end RM
