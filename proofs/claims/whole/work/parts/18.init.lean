/-! rows for constructors, over growing worlds -/
theorem aoa_moved {u U : State} (hvm : u.vm.Alike U.vm) (h : (Cond.arrayOver (.array .int)).before #[] u = true) : (Cond.arrayOver (.array .int)).before #[] U = true := by
  obtain ⟨comp, c, k, h1, h3, h4, h5⟩ := Cond.arrayOver_specA h
  have h2 : (u.vm.classes.findIdx? fun (x : Class) => match x.kind with | .array component _ => component == comp | _ => false) = some c := by
    unfold Cond.before Cond.holds at h
    simp only [Cond.value] at h
    rw [h1, Option.bind_some] at h
    cases hq : (u.vm.classes.findIdx? fun (x : Class) => match x.kind with | .array component _ => component == comp | _ => false) with
    | none => exact absurd h (by erw [hq]; simp)
    | some c2 =>
      have h' := h
      erw [hq] at h'
      simp only [Option.bind_some] at h'
      cases hk2 : u.vm.classes[c2]? with
      | none => rw [hk2] at h'; simp at h'
      | some k2 =>
        rw [hk2] at h'
        simp only [Option.map_some] at h'
        split at h'
        · simp at h'
          have e : some c2 = some c := h'.2.symm.trans h5
          exact e
        · simp at h'
  obtain ⟨k', hk', he⟩ := hvm.2.2 _ _ h3
  have hi : (U.vm.classes.findIdx? fun (x : Class) => match x.kind with | .array component _ => component == comp | _ => false) = some c := by
    have e1 := va_idx_bare U.vm comp
    have e2 := va_idx_bare u.vm comp
    have e3 : u.vm.bare = U.vm.bare := by first | exact hvm.bare_eq | exact hvm.bare_eq.symm
    rw [e3] at e2
    exact (e1.symm.trans e2).trans h2
  have hkind : k'.kind = .array comp (.array .int) := by rw [he]; exact h4
  have f1 : U.vm.findClass (FieldType.array .int).toString = some comp := by rw [hvm.findClass]; exact h1
  have f2 : U.vm.findClass ("[" ++ (FieldType.array .int).toString) = some c := by rw [hvm.findClass]; exact h5
  unfold Cond.before Cond.holds
  simp only [Cond.value]
  rw [f1, Option.bind_some]
  refine (congrArg (fun o : Option Nat => (o.bind (fun c => (U.vm.classes[c]?).map fun (k : Class) => match k.kind with | .array _ ty => decide (ty = FieldType.array .int) && decide (U.vm.findClass ("[" ++ (FieldType.array .int).toString) = some c) | _ => false) == some true)) hi).trans ?_
  simp [hk', hkind, f2]
def aK (U : State) : Prop := va_AO RX0 U ∧ va_AO RX5 U ∧ va_AO RX6 U ∧ (Cond.arrayOver (.array .int)).before #[] U = true
theorem aK.moved {u U : State} (hvm : u.vm.Alike U.vm) (h : aK u) : aK U := ⟨h.1.moved hvm, h.2.1.moved hvm, h.2.2.1.moved hvm, aoa_moved hvm h.2.2.2⟩
/-- a constructor's start and end -/
abbrev iPc (G : GG) (I : ix → Prop) (ad : ix → Nat) (M : Mem) (F : Fm) (sz : Nat) (vs : List Value) : Array Value → State → Prop := va_Pc vs (fun U => w2 G I ad M F U.heap ∧ wK G U ∧ aK U ∧ U.heap.size = sz)
abbrev iA (a sz : Nat) : Nat → Prop := fun q => q = a ∨ sz ≤ q
abbrev iQ (G : GG) (I : ix → Prop) (ad : ix → Nat) (I2 : ix → Prop) (M2 : Mem) (F2 : Fm) (a sz : Nat) : Array Value → State → Outcome → State → Prop := va_Qv (fun _ : ix → Nat => True) (fun (ad2 : ix → Nat) (t : State) => (∀ j, I j → ad2 j = ad j) ∧ (∀ j, I2 j → ¬ I j → sz ≤ ad2 j) ∧ w2 G I2 ad2 M2 F2 t.heap) (iA a sz)
theorem iPc.blind {G : GG} {I : ix → Prop} {ad : ix → Nat} {M : Mem} {F : Fm} {sz : Nat} {vs : List Value} : FrameBlind (iPc G I ad M F sz vs) := by
  intro a U g mk q
  obtain ⟨h1, h2, ⟨h3, h4⟩, h5, h6⟩ := q
  exact ⟨h1, h2, ⟨va_K.moved (u := U) (U := U.calling g mk a) (Vm.Alike.refl U.vm) h3, fun q hq => va_Nw.same rfl rfl (h4 q hq)⟩, aK.moved (u := U) (U := U.calling g mk a) (Vm.Alike.refl U.vm) h5, h6⟩
section RI
variable {p : Program} {l : Launch} {e : Env} {R : Room} {s : State} {m : MethodId} {args : Array Value} {below : List Frame} {meth : Method} {c : Code} {H : Heap} {locs : List Loc} {cells slots : Nat} {Q : State → Prop}
variable {cc : ByteArray} {pc nL index : Nat} {ls : Array Slot} {rest : List Value} {rt : Option FieldType} {own : String} {G : GG} {I : ix → Prop} {ad : ix → Nat} {M : Mem} {F : Fm} {i j : ix} {A : Nat → Prop}
theorem w2.one (hP : w2 G I ad M F H) (hi : I i) : va_P G.1 vwCl [(ad i, p2 G i (M.1 i) M.2 (adr ad (F i)))] H := by
  intro k q hk
  cases k with
  | zero => cases hk; exact hP.1 i hi
  | succ k => cases hk
theorem up_ne {h : Nat} (hi : ¬ I i) : ∀ j, I j → (fun j => if j = i then h else ad j) j = ad j := fun j hj => if_neg (fun q : j = i => hi (q ▸ hj))
theorem vaS_push {H1 : Heap} {q : Nat} (hS : va_S A s.heap H locs) (z : H1.size = H.size + q) (o1 : ∀ x, x < H.size → H1[x]? = H[x]?) : va_S A s.heap H1 locs := ⟨Nat.le_trans hS.1 (by omega), fun x h1 h2 => (o1 x (Nat.lt_of_lt_of_le h1 hS.1)).trans (hS.2.1 x h1 h2), hS.2.2⟩
theorem r2_new (C : cx p s m args meth c cc nL rt own G) (hP : w2 G I ad M F H) (hS : va_S A s.heap H locs) (hi : ¬ I i) (h27 : i.1 ≠ 27) {ci N : Nat} {fs : List Value} {Cn : String} {T : u_T} (he : p2 G i (fun _ => 0) M.2 (fun _ => none) = .inr (ci, fs)) (hc : vwCl[ci]? = some (Cn, T, N)) (hin : ∀ w ∈ u_ws Cn T N, w ∈ WG) (ty : Nat → FieldType) (hty : ∀ k, k < N → parseFieldDescriptor (T k).2.2.1 = some (ty k)) (hfs : ∀ j, j < N → defaultValue (ty j) = vp_V fs j)
    (h1 : Cond.classLink own index Cn ∈ WG) (h2 : Cond.instantiable Cn N ∈ WG) (h3 : Cond.initialized Cn ∈ WG) (hcells : cells + 1 ≤ R.cells) (hslots : slots + N ≤ R.slots) (hdg : decode cc pc = .ok (.new index, 3))
    (kk : ∀ (q : Nat) (ad2 : ix → Nat) (H1 : Heap), ad2 i = q → (∀ j, I j → ad2 j = ad j) → s.heap.size ≤ q → w2 G (iI I i) ad2 (mr M i (fun _ => 0)) (nF F i) H1 → va_S A s.heap H1 locs → W p l e R s m args below meth c H1 locs (cells + 1) (slots + N) Q (F0 m (pc + 3) ls (.ref q :: rest))) : W p l e R s m args below meth c H locs cells slots Q (F0 m pc ls rest) := by
  obtain ⟨hx, hb, -, hown, hts, -, -, hK, -⟩ := C
  have hKn := hK.1 ci _ hc
  refine W.newcK hx hb hown (hts _ h1) (hts _ h2) (hts _ h3) rfl hdg hcells hslots hKn.2.1 rfl fun H1 kC hkC e1 z1 o1 => ?_
  refine kk H.size (fun j => if j = i then H.size else ad j) H1 (if_pos rfl) (up_ne hi) hS.1 (hP.grow hi (w := M.2) (Or.inr rfl) (fun q => absurd q h27) ?_ o1) (vaS_push hS z1 o1)
  rw [he]
  exact ⟨_, hc, (u_born ty hts hin hKn hkC e1 hty).to hfs⟩
theorem r2_newI (C : cx p s m args meth c cc nL rt own G) (hP : w2 G I ad M F H) (hS : va_S A s.heap H locs) (hi : ¬ I i) (h27 : i.1 ≠ 27) {n : Nat} (he : p2 G i (fun _ => 0) M.2 (fun _ => none) = arI G n (fun _ => 0)) (harr : Cond.arrayClass .int ∈ WG) {x : Int32} (hx0 : ¬ x < 0) (hxn : x.toNatClampNeg = n) (hby : n * componentBytes .int ≤ 536870912) (hcells : cells + 1 ≤ R.cells) (hslots : slots + n ≤ R.slots) (hdg : decode cc pc = .ok (.newarray .int, 2))
    (kk : ∀ (q : Nat) (ad2 : ix → Nat) (H1 : Heap), ad2 i = q → (∀ j, I j → ad2 j = ad j) → s.heap.size ≤ q → w2 G (iI I i) ad2 (mr M i (fun _ => 0)) (nF F i) H1 → va_S A s.heap H1 locs → W p l e R s m args below meth c H1 locs (cells + 1) (slots + n) Q (F0 m (pc + 2) ls (.ref q :: rest))) : W p l e R s m args below meth c H locs cells slots Q (F0 m pc ls (.int x :: rest)) := by
  obtain ⟨hx, hb, -, hown, hts, -, -, hK, -⟩ := C
  refine va_newaK (atype := .int) hx hb (hts _ harr) rfl hdg rfl hx0 hxn hby hcells hslots rfl fun H1 cA e1 z1 o1 hAr hNm => ?_
  have hcA : cA = G.2 0 := Option.some.inj (hNm.symm.trans (hK.2 0 _ rfl).2)
  subst hcA
  refine kk H.size (fun j => if j = i then H.size else ad j) H1 (if_pos rfl) (up_ne hi) hS.1 (hP.grow hi (w := M.2) (Or.inr rfl) (fun q => absurd q h27) ?_ o1) (vaS_push hS z1 o1)
  rw [he]
  exact e1
theorem r2_newZ (C : cx p s m args meth c cc nL rt own G) (hP : w2 G I ad M F H) (hS : va_S A s.heap H locs) (hi : ¬ I (46, 0, 0, 0)) (harr : Cond.arrayClass .boolean ∈ WG) {x : Int32} (hx0 : ¬ x < 0) (hxn : x.toNatClampNeg = 2) (hcells : cells + 1 ≤ R.cells) (hslots : slots + 2 ≤ R.slots) (hdg : decode cc pc = .ok (.newarray .boolean, 2))
    (kk : ∀ (q : Nat) (ad2 : ix → Nat) (H1 : Heap), ad2 (46, 0, 0, 0) = q → (∀ j, I j → ad2 j = ad j) → s.heap.size ≤ q → w2 G (iI I (46, 0, 0, 0)) ad2 (mr M (46, 0, 0, 0) (fun _ => 0)) (nF F (46, 0, 0, 0)) H1 → va_S A s.heap H1 locs → W p l e R s m args below meth c H1 locs (cells + 1) (slots + 2) Q (F0 m (pc + 2) ls (.ref q :: rest))) : W p l e R s m args below meth c H locs cells slots Q (F0 m pc ls (.int x :: rest)) := by
  obtain ⟨hx, hb, -, hown, hts, -, -, hK, -⟩ := C
  refine va_newaK (atype := .boolean) hx hb (hts _ harr) rfl hdg rfl hx0 hxn (Nat.le_of_ble_eq_true rfl) hcells hslots rfl fun H1 cA e1 z1 o1 hAr hNm => ?_
  have hcA : cA = G.2 2 := Option.some.inj (hNm.symm.trans (hK.2 2 _ rfl).2)
  subst hcA
  refine kk H.size (fun j => if j = (46, 0, 0, 0) then H.size else ad j) H1 (if_pos rfl) (up_ne hi) hS.1 (hP.grow hi (w := M.2) (Or.inr rfl) (fun q => absurd q (by decide)) ?_ o1) (vaS_push hS z1 o1)
  exact e1
theorem r2_newJ (C : cx p s m args meth c cc nL rt own G) (hP : w2 G I ad M F H) (hS : va_S A s.heap H locs) (hi : ¬ I (27, 0, 0, 0)) (h27 : ∀ j, I j → j.1 ≠ 27) (harr : Cond.arrayClass .long ∈ WG) {x : Int32} (hx0 : ¬ x < 0) (hxn : x.toNatClampNeg = 48) (hcells : cells + 1 ≤ R.cells) (hslots : slots + 48 ≤ R.slots) (hdg : decode cc pc = .ok (.newarray .long, 2))
    (kk : ∀ (q : Nat) (ad2 : ix → Nat) (H1 : Heap), ad2 (27, 0, 0, 0) = q → (∀ j, I j → ad2 j = ad j) → s.heap.size ≤ q → w2 G (iI I (27, 0, 0, 0)) ad2 ((mr M (27, 0, 0, 0) (fun _ => 0)).1, fun _ => 0) (nF F (27, 0, 0, 0)) H1 → va_S A s.heap H1 locs → W p l e R s m args below meth c H1 locs (cells + 1) (slots + 48) Q (F0 m (pc + 2) ls (.ref q :: rest))) : W p l e R s m args below meth c H locs cells slots Q (F0 m pc ls (.int x :: rest)) := by
  obtain ⟨hx, hb, -, hown, hts, -, -, hK, -⟩ := C
  refine va_newaK (atype := .long) hx hb (hts _ harr) rfl hdg rfl hx0 hxn (Nat.le_of_ble_eq_true rfl) hcells hslots rfl fun H1 cA e1 z1 o1 hAr hNm => ?_
  have hcA : cA = G.2 1 := Option.some.inj (hNm.symm.trans (hK.2 1 _ rfl).2)
  subst hcA
  refine kk H.size (fun j => if j = (27, 0, 0, 0) then H.size else ad j) H1 (if_pos rfl) (up_ne hi) hS.1 (hP.grow hi (w := fun _ => 0) (Or.inl rfl) (fun _ => h27) ?_ o1) (vaS_push hS z1 o1)
  exact e1
theorem r2_anew (C : cx p s m args meth c cc nL rt own G) (hP : w2 G I ad M F H) (hS : va_S A s.heap H locs) (hi : ¬ I i) (h27 : i.1 ≠ 27) {n t0 : Nat} {Cn : String} {cA0 : ClassId} (he : p2 G i (fun _ => 0) M.2 (fun _ => none) = arR cA0 n (fun _ => none)) (ht : (tyL G.2)[t0]? = some (cA0, .object Cn)) (hover : va_AO Cn s) (hcl : Cond.classLink own index Cn ∈ WG) {x : Int32} (hx0 : ¬ x < 0) (hxn : x.toNatClampNeg = n) (hby : n * 4 ≤ 536870912) (hcells : cells + 1 ≤ R.cells) (hslots : slots + n ≤ R.slots) (hdg : decode cc pc = .ok (.anewarray index, 3))
    (kk : ∀ (q : Nat) (ad2 : ix → Nat) (H1 : Heap), ad2 i = q → (∀ j, I j → ad2 j = ad j) → s.heap.size ≤ q → w2 G (iI I i) ad2 (mr M i (fun _ => 0)) (nF F i) H1 → va_S A s.heap H1 locs → W p l e R s m args below meth c H1 locs (cells + 1) (slots + n) Q (F0 m (pc + 3) ls (.ref q :: rest))) : W p l e R s m args below meth c H locs cells slots Q (F0 m pc ls (.int x :: rest)) := by
  obtain ⟨hx, hb, -, hown, hts, -, -, hK, -⟩ := C
  subst hxn
  refine W.anew hx hb hown (hts _ hcl) (va_AO.use hover) rfl hdg rfl hx0 hby hcells hslots fun cA kA comp f1 f2 f3 f4 => ?_
  generalize hH1 : H.push ({ cls := cA, slots := Array.replicate x.toNatClampNeg .null, vm := .none } : Cell) = H1
  have z1 : H1.size = H.size + 1 := by rw [← hH1, Array.size_push]
  have e1 : H1[H.size]? = some (arrV cA x.toNatClampNeg (fun _ => .null)) := by rw [← hH1, Array.getElem?_push_size, ← arrV_new]
  have o1 : ∀ q : Nat, q < H.size → H1[q]? = H[q]? := fun q hq => by rw [← hH1, Array.getElem?_push, if_neg (Nat.ne_of_lt hq)]
  have hcA : cA = cA0 := by
    obtain ⟨kA2, comp2, g1, g2, g3, g4⟩ := (hK.2 t0 _ ht).2
    exact Option.some.inj (f1.symm.trans g4)
  subst hcA
  refine kk H.size (fun j => if j = i then H.size else ad j) H1 (if_pos rfl) (up_ne hi) hS.1 (hP.grow hi (w := M.2) (Or.inr rfl) (fun q => absurd q h27) ?_ o1) (vaS_push hS z1 o1)
  rw [he]
  show H1[H.size]? = some (vp_cell _ _)
  rw [vp_cell_q]
  exact e1
theorem r2_putF (C : cx p s m args meth c cc nL rt own G) (hin2 : meth.name = "<init>") (hP : w2 G I ad M F H) (hS : va_S A s.heap H locs) (hi : I i) (hj : I j) (hAi : A (ad i)) {ci : Nat} {fs : (Nat → Option Nat) → List Value} (he : ∀ g, p2 G i (M.1 i) M.2 g = .inr (ci, fs g)) {Cn : String} {T : u_T} {N : Nat} (hin : ∀ w ∈ u_ws Cn T N, w ∈ WG) (ty0 : Nat → FieldType) (hty : ∀ k, k < N → parseFieldDescriptor (T k).2.2.1 = some (ty0 k)) (hnm : ∀ a, a < N → ∀ b, b < N → a ≠ b → (T a).2.1 ≠ (T b).2.1) (hc : vwCl[ci]? = some (Cn, T, N)) (k : Nat) (hk : k < N) (hlink : Cond.fieldLink own index (T k).1 (T k).2.1 (T k).2.2.1 ∈ WG) (hfin : (T k).2.2.2 = true) (hdecl : (T k).1 = own) {ty : FieldType} {a b : Nat} (ha : ad i = a) (hbv : ad j = b) (hd : parseFieldDescriptor (T k).2.2.1 = some ty) (hn : narrow ty (.ref b) = .ref b) (hfit : fits ty (.ref b) = true) (hl : ∀ g, k < (fs g).length)
    (hset : ∀ (g : Nat → Option Nat) (z : Nat), fs (va_up g k (some z)) = (fs g).set k (.ref z)) (hdg : decode cc pc = .ok (.putfield index, 3))
    (kk : ∀ (H1 : Heap) (locs1 : List Loc), w2 G I ad M (fu F i k j) H1 → va_S A s.heap H1 locs1 → W p l e R s m args below meth c H1 locs1 cells slots Q (F0 m (pc + 3) ls rest)) : W p l e R s m args below meth c H locs cells slots Q (F0 m pc ls (.ref b :: .ref a :: rest)) := by
  obtain ⟨hx, hb, -, hown, hts, -, -, hK0, -⟩ := C
  subst ha hbv
  have hK := hK0
  have hP1 := hP.one hi
  rw [he] at hP1
  have hap := va_apart (own := own) hts hin ty0 hty hnm hK hc
  obtain ⟨r, h1, cell, q1, q2, q3, q4⟩ := hP1 0 _ rfl
  have hr : r = (Cn, T, N) := Option.some.inj (h1.symm.trans hc)
  subst hr
  obtain ⟨hSl, hfc, kC, hkC, hkind⟩ := hK.1 ci _ hc
  obtain ⟨cf, kf, fi, f, hi2, hsl⟩ := hSl k hk
  have hlay := hts _ (hin _ (u_in_lay hk))
  unfold u_lay at hlay
  rw [if_pos hfin] at hlay
  have hst := (u_facts hfc hkC (u_lays hts hin hk) hi2).1
  have hcf : m.cls = cf := by
    obtain ⟨_, _, c', _, _, _, -, -, hf', -, -, -, hown2, -⟩ := Cond.laysFinal_spec hlay
    have e1 : c' = cf := by have := hi2.symm.trans hf'; simp at this; exact this.1.symm
    rw [hdecl] at hown2
    rw [← e1]; exact Option.some.inj (hown.symm.trans hown2)
  have h6 := u_fits hfc hkC hkind (Or.inr hlay) hi2 hd hn hfit
  refine W.putFinK hx hb hown (hts _ hlink) hi2 hst hcf hin2 (by rw [q2]; exact h6) q1 q3 (by rw [hsl]; exact k2_hasslot (q4 k hk)) rfl rfl hdg fun H' e1 e2 e3 => ?_
  rw [hsl] at e1 ⊢
  refine kk H' _ (hP.link hi hj ?_ e3) (hS.put e2 e3 hAi)
  rw [he, adr_fu, hset]
  exact ⟨_, hc, t_OB.to (V := updV (vp_V (fs (adr ad (F i)))) k (.ref (ad j))) ⟨_, e1, q2, q3, t_set q4 hap hk (.ref (ad j))⟩ (fun q _ => vp_updV_set (hl _) (.ref (ad j)) q)⟩
theorem r2_getR (C : cx p s m args meth c cc nL rt own G) (hP : w2 G I ad M F H) (hi : I i) {ci : Nat} {fs : (Nat → Option Nat) → List Value} (he : ∀ g, p2 G i (M.1 i) M.2 g = .inr (ci, fs g)) {Cn : String} {T : u_T} {N : Nat} (hin : ∀ w ∈ u_ws Cn T N, w ∈ WG) (hc : vwCl[ci]? = some (Cn, T, N)) (k : Nat) (hk : k < N) (hlink : Cond.fieldLink own index (T k).1 (T k).2.1 (T k).2.2.1 ∈ WG) (hv : ∀ g, (fs g)[k]? = some (va_rf (g k))) {a b : Nat} (ha : ad i = a) (hF : F i k = some j) (hbv : ad j = b) (hdg : decode cc pc = .ok (.getfield index, 3))
    (kk : W p l e R s m args below meth c H locs cells slots Q (F0 m (pc + 3) ls (.ref b :: rest))) : W p l e R s m args below meth c H locs cells slots Q (F0 m pc ls (.ref a :: rest)) := by
  obtain ⟨hx, hb, -, hown, hts, -, -, hK, -⟩ := C
  subst ha hbv
  have hP1 := hP.one hi
  rw [he] at hP1
  refine va_get (D := G.1) hx hb hts hin hown hK hP1 0 rfl hc k hk (hts _ hlink) (fun _ h => h) (hv _) hdg ?_
  have e1 : adr ad (F i) k = some (ad j) := by simp [adr, hF]
  rw [e1]
  exact kk
theorem r2_aast (C : cx p s m args meth c cc nL rt own G) (hP : w2 G I ad M F H) (hS : va_S A s.heap H locs) (hi : I i) (hj : I j) (hAi : A (ad i)) {n t0 ci : Nat} {r : vw_C} {cA : ClassId} {fs : List Value} (he : ∀ g, p2 G i (M.1 i) M.2 g = arR cA n g) (ht : (tyL G.2)[t0]? = some (cA, .object r.1)) (hej : p2 G j (M.1 j) M.2 (adr ad (F j)) = .inr (ci, fs)) (hc : vwCl[ci]? = some r) {x : Int32} (hin : vp_in x n) {k : Nat} (hk : x.toNatClampNeg = k) {a b : Nat} (ha : ad i = a) (hbv : ad j = b) (hdg : decode cc pc = .ok (.aastore, 1))
    (kk : ∀ (H1 : Heap) (locs1 : List Loc), w2 G I ad M (fu F i k j) H1 → va_S A s.heap H1 locs1 → W p l e R s m args below meth c H1 locs1 cells slots Q (F0 m (pc + 1) ls rest)) : W p l e R s m args below meth c H locs cells slots Q (F0 m pc ls (.ref b :: .int x :: .ref a :: rest)) := by
  obtain ⟨hx, hb, -, hown, hts, -, -, hK, -⟩ := C
  subst ha hbv hk
  have hlt : x.toNatClampNeg < n := in_lt hin
  have h0 : ¬ x < 0 := fun q => hin (Or.inl q)
  have hPi := hP.1 i hi
  rw [he] at hPi
  have hPj := hP.1 j hj
  rw [hej] at hPj
  obtain ⟨r', hr', cellV, g1, g2, g3, -⟩ := hPj
  have hcls := (hK.1 ci r hc).2
  obtain ⟨kA, comp, k1, k2, k3, -⟩ := (hK.2 t0 _ ht).2
  have hcomp : comp = G.1.1 ci := Option.some.inj (k3.symm.trans hcls.1)
  subst hcomp
  obtain ⟨kC, hkC, -⟩ := hcls.2
  refine W.aast hx hb hPi (fun q h => by cases h) (fun h => by cases h) k1 k2 rfl hkC ⟨h0, by show _ < (arrV _ _ _).slots.size; rw [arrV_size]; exact hlt⟩ g1 (fun q h => by rw [g3] at h; cases h) (by rw [g2]; exact hkC) (by rw [g2]; exact va_assign hcls) rfl rfl hdg fun H1 e z oq => ?_
  refine kk H1 _ (hP.link hi hj ?_ oq) (hS.put z oq hAi)
  rw [he, adr_fu]
  show H1[ad i]? = some (vp_cell _ _)
  rw [e]
  rw [vp_cell_q, vp_cell_q, arrV_store]
  congr 2
  funext q
  by_cases hq : q = x.toNatClampNeg
  · subst hq
    simp [updV, va_up, va_rf]
  · simp [updV, va_up, hq]
/-- a constructor of a new object is called -/
theorem r2_cI {y : MethodName} {by_ : ByteArray} {mL n mc ms a : Nat} {rm : Room} {As : List Value} {st0 : List Value} {I2 : ix → Prop} {M2 : Mem} {F2 : Fm} (C : cx p s m args meth c cc nL rt own G) (haK : aK s) (hls : ls.size = nL) (hP : w2 G I ad M F H) (hS : va_S A s.heap H locs) (hA : ∀ q, s.heap.size ≤ q → A q) (hAa : A a)
    (hM : Met l y (wW y by_ mL none) rm (iPc G I ad M F H.size (.ref a :: As)) (iQ G I ad I2 M2 F2 a H.size) mc ms (iA a H.size))
    (hl : Cond.methodLink own index y ∈ WG) (h1 : Cond.instanceMethod y ∈ WG) (h3 : Cond.initialized y.cls ∈ WG) (h4 : Cond.code y by_ mL none ∈ WG) (hrm : rm.cells = mc ∧ rm.slots = ms) (hy : y.name = "<init>")
    (hd : y.cls ≠ "java/lang/invoke/MethodHandle" ∧ y.cls ≠ "java/lang/invoke/VarHandle" ∧ (parseMethodDescriptor y.desc).map (fun d => d.parameters.length) = some n) (hn : As.length = n) (hst : st0 = As.reverse ++ .ref a :: rest) (hR : rm.frames + 1 ≤ R.frames ∧ 8 + (mL + 11) + rm.locals ≤ R.locals) (hrest : (rest.map fun v => v.category).sum ≤ 8) (hcs : cells + mc ≤ R.cells ∧ slots + ms ≤ R.slots) (hdg : decode cc pc = .ok (.invokespecial index, 3))
    (kk : ∀ (ad2 : ix → Nat) (H1 : Heap) (locs1 : List Loc), (∀ j, I j → ad2 j = ad j) → (∀ j, I2 j → ¬ I j → s.heap.size ≤ ad2 j) → w2 G I2 ad2 M2 F2 H1 → va_S A s.heap H1 locs1 → W p l e R s m args below meth c H1 locs1 (cells + mc) (slots + ms) Q (F0 m (pc + 3) ls rest)) : W p l e R s m args below meth c H locs cells slots Q (F0 m pc ls st0) := by
  obtain ⟨hx, hb, hml, hown, hts, -, -, hK⟩ := C
  have hcw : CallB R s args own index y by_ mL none (wW y by_ mL none) rm mc ms n ∧ y.name = "<init>" ∧ (Cond.instanceMethod y).before args s = true := ⟨callB_of n (Ts := WG) hts (fun w hw => (List.mem_cons.mp hw).elim (fun e => by subst e; exact ⟨h4, wg_good h4⟩) (fun hw => ⟨hw, wg_good hw⟩)) rfl hrm.1 hrm.2 (hts _ h3) (hts _ hl) hd hR, hy, hts _ h1⟩
  have hsub : ∀ q, iA a H.size q → A q := fun q hq => hq.elim (fun e => by rw [e]; exact hAa) (fun h => hA q (Nat.le_trans hS.1 h))
  refine va_callv (va_runI (As := As) (rest := rest) ⟨hx, hb, hml, hown, hts⟩ hM hcw ⟨iPc.blind, fun U hU hW => ⟨rfl, by rw [hU]; exact hP, hK.warm hW, haK.moved hW.alike, by rw [hU]⟩⟩ rfl hn hls hst (lv_room hrest) hdg hcs) hS (fun q _ h => hsub q h) hsub (fun u t H1 locs1 ht hvm hw hB hz1 hk1 hS1 => ?_)
  exact kk u H1 locs1 hB.1 (fun j h1 h2 => Nat.le_trans hS.1 (hB.2.1 j h1 h2)) (by rw [← ht]; exact hB.2.2) hS1
/-- a method over a closed part I0 of the world is called (clear) -/
theorem r2_cV {y : MethodName} {by_ : ByteArray} {mL n : Nat} {rv : Option FieldType} {rm : Room} {As : List Value} {Cn : String} {Qp : Mem → Prop} {st0 : List Value} {ci N a : Nat} {T : u_T} {fs : List Value} {I0 : ix → Prop} (C : cx p s m args meth c cc nL rt own G) (hls : ls.size = nL) (hP : w2 G I ad M F H) (hS : va_S A s.heap H locs)
    (hM : Met l y (wW y by_ mL rv) rm (va_Pc (.ref (ad i) :: As) (fun U => wd G I0 ad M U.heap ∧ wK G U)) (qV G I0 ad Qp) 0 0 (fA I0 ad)) (h0 : ∀ j, I0 j → I j ∧ A (ad j)) (hst : ∀ (M1 : Mem) j, I0 j → p2 G j (M1.1 j) M1.2 (adr ad (F j)) = pic G ad M1 j) (hQ : ∀ M1, Qp M1 → (∀ j, I j → ¬ I0 j → M1.1 j = M.1 j) ∧ M1.2 = M.2) (ha : ad i = a)
    (hi : I0 i) (he : pic G ad M i = .inr (ci, fs)) (hc : vwCl[ci]? = some (Cn, T, N))
    (hl : Cond.methodLink own index y ∈ WG) (h1 : Cond.instanceMethod y ∈ WG) (h2 : Cond.selects Cn y y ∈ WG) (h3 : Cond.initialized y.cls ∈ WG) (h4 : Cond.code y by_ mL rv ∈ WG) (hrm : rm.cells = 0 ∧ rm.slots = 0)
    (hd : y.cls ≠ "java/lang/invoke/MethodHandle" ∧ y.cls ≠ "java/lang/invoke/VarHandle" ∧ (parseMethodDescriptor y.desc).map (fun d => d.parameters.length) = some n) (hn : As.length = n) (hst0 : st0 = As.reverse ++ .ref a :: rest) (hR : rm.frames + 1 ≤ R.frames ∧ 8 + (mL + 11) + rm.locals ≤ R.locals) (hrest : (rest.map fun v => v.category).sum ≤ 8) (hcs : cells ≤ R.cells ∧ slots ≤ R.slots) (hdg : decode cc pc = .ok (.invokevirtual index, 3))
    (kk : ∀ (M1 : Mem) (H1 : Heap) (locs1 : List Loc), Qp M1 → w2 G I ad M1 F H1 → va_S A s.heap H1 locs1 → W p l e R s m args below meth c H1 locs1 cells slots Q (F0 m (pc + 3) ls rest)) : W p l e R s m args below meth c H locs cells slots Q (F0 m pc ls st0) := by
  obtain ⟨hx, hb, hml, hown, hts, -, -, hK⟩ := C
  subst ha
  have hPd : wd G I0 ad M H := ⟨fun j hj => by rw [← hst M j hj]; exact hP.1 j (h0 j hj).1, fun a b h1 h2 => hP.2.1 a b (h0 a h1).1 (h0 b h2).1⟩
  have hP1 := hPd.one hi
  rw [he] at hP1
  have hcw : CallW R s args own Cn index y by_ mL rv (wW y by_ mL rv) rm 0 0 n := ⟨callB_of n (Ts := WG) hts (fun w hw => (List.mem_cons.mp hw).elim (fun e => by subst e; exact ⟨h4, wg_good h4⟩) (fun hw => ⟨hw, wg_good hw⟩)) rfl hrm.1 hrm.2 (hts _ h3) (hts _ hl) hd hR, hts _ h1, hts _ h2⟩
  have hsub : ∀ q, fA I0 ad q → A q := fun q hq => by obtain ⟨j, h5, h6⟩ := hq; rw [← h6]; exact (h0 j h5).2
  refine va_callv (mc := 0) (ms := 0) (va_runV (As := As) (rest := rest) ⟨hx, hb, hml, hown, hts⟩ hM hcw ⟨wK.blind, va_recv hK.1 hP1 (q0 := 0) hc rfl, fun U hU hW => ⟨rfl, by rw [hU]; exact hPd, hK.warm hW⟩⟩ rfl hn hls hst0 (lv_room hrest) hdg hcs) hS (fun q _ h => hsub q h) hsub (fun u t H1 locs1 ht hvm hw hB hz1 hk1 hS1 => ?_)
  refine kk u H1 locs1 hw ⟨fun j hj => ?_, hP.2.1, hP.2.2⟩ hS1
  by_cases hj0 : I0 j
  · rw [hst u j hj0, ← ht]
    exact hB.1 j hj0
  · obtain ⟨g1, g2⟩ := hQ u hw
    rw [g1 j hj hj0, g2]
    refine (hP.1 j hj).kept (hk1 _ (hP.1 j hj).lt (fun q => ?_))
    obtain ⟨j2, h5, h6⟩ := q
    exact hj0 (hP.2.1 j2 j (h0 j2 h5).1 hj h6 ▸ h5)
theorem r2_obj (C : cx p s m args meth c cc nL rt own G) (hls : ls.size = nL) (hl : Cond.methodLink own index objectInit ∈ WG) (h1 : Cond.instanceMethod objectInit ∈ WG) (h2 : Cond.code objectInit ⟨#[0xb1]⟩ 1 none ∈ WG) {a : Nat} (hdg : decode cc pc = .ok (.invokespecial index, 3)) (hf : 1 ≤ R.frames) (hlo : (rest.map fun v => v.category).sum + 12 ≤ R.locals)
    (kk : W p l e R s m args below meth c H locs cells slots Q (F0 m (pc + 3) ls rest)) : W p l e R s m args below meth c H locs cells slots Q (F0 m pc ls (.ref a :: rest)) := by
  obtain ⟨hx, hb, hml, hown, hts, -⟩ := C
  refine W.objInit hx hb hown (hts _ hl) (hts _ h1) (hts _ h2) rfl (by rw [hml]; exact hls) rfl hdg hf (by show 2 * 0 + _ + 12 ≤ _; omega) ?_
  exact kk
theorem r2_ret {I0 I2 : ix → Prop} {ad0 : ix → Nat} {M2 : Mem} {F2 : Fm} {a : Nat} (C : cx p s m args meth c cc nL none own G) (hP : w2 G I2 ad M2 F2 H) (hext : ∀ j, I0 j → ad j = ad0 j) (hnw : ∀ j, I2 j → ¬ I0 j → s.heap.size ≤ ad j) (hS : va_S (iA a s.heap.size) s.heap H locs) {mc ms : Nat} (h1 : cells ≤ mc) (h2 : slots ≤ ms) (hdg : decode cc pc = .ok (.return_, 1)) : W p l e R s m args below meth c H locs cells slots (MQ below (iQ G I0 ad0 I2 M2 F2 a s.heap.size) args s mc ms (iA a s.heap.size)) (F0 m pc ls []) := by
  obtain ⟨hx, hb, -, -, -, hr, hlocks, -⟩ := C
  refine W.widen h1 h2 ?_
  exact W.vret hx hb hr (fun t ht _ => ⟨⟨ad, rfl, trivial, hext, hnw, by show w2 G I2 ad M2 F2 t.heap; rw [ht]; exact hP⟩, hS.F ht⟩) hS.2.2 hdg hlocks
end RI
/-- a constructor's contract out of the walk of its body -/
theorem met_ofI {l : Launch} {y : MethodName} {cc : ByteArray} {mL : Nat} {rm : Room} {G : GG} {I : ix → Prop} {ad : ix → Nat} {M : Mem} {F : Fm} {sz : Nat} {vs : List Value} {I2 : ix → Prop} {M2 : Mem} {F2 : Fm} {a mc ms : Nat} (hy : plainName y.cls = true) (hlen : (lg_sl vs).length ≤ mL) (hnm : y.name = "<init>")
    (body : ∀ (p : Program) (e : Env) (s : State) (m : MethodId) (below : List Frame) (meth : Method) (c : Code), sz = s.heap.size → cx p s m vs.toArray meth c cc mL none y.cls G → aK s → meth.name = "<init>" → w2 G I ad M F s.heap → va_S (iA a s.heap.size) s.heap s.heap [] → ∀ ls : Array Slot, lv_has ls mL (lv_args 0 vs) → W p l e rm s m vs.toArray below meth c s.heap [] 0 0 (MQ below (iQ G I ad I2 M2 F2 a s.heap.size) vs.toArray s mc ms (iA a s.heap.size)) (F0 m 0 ls [])) :
    Met l y (wW y cc mL none) rm (iPc G I ad M F sz vs) (iQ G I ad I2 M2 F2 a sz) mc ms (iA a sz) := by
  refine Met.ofW (cc := cc) (maxL := mL) (ret := none) hy rfl ?_
  intro p e s m args below meth c s₁ B hml hv
  obtain ⟨rfl, hP, hK, haK, hsz⟩ := hv
  subst hsz
  have hts := atoms_spec (ws := wW y cc mL none) B.pre
  rw [lg_entry_eq]
  exact body p e s m below meth c rfl ⟨B.exec, B.bytes, hml, findClass_of_methodNamed B.named, wW_wg hts, B.returns, B.notSynchronized, hK⟩ haK ((name_of_methodNamed B.named B.method).1.trans hnm) hP va_S.rf _ (lv_entry vs hlen)
