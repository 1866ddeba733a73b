/-! the indexed world: a cell has an index (kind, store, block, place); all numbers of all cells are one memory; what refers never changes -/
abbrev ix : Type := Nat × Nat × Nat × Nat
abbrev Mem : Type := (ix → Nat → Int32) × (Nat → Int64)
abbrev GG : Type := va_G × (Nat → ClassId)
abbrev arI (G : GG) (n : Nat) (r : Nat → Int32) : va_E := .inl (G.2 0, n, .inl r)
abbrev arR (ca : ClassId) (n : Nat) (r : Nat → Option Nat) : va_E := .inl (ca, n, .inr (.inr (.inr (.inr r))))
def rfs (n : Nat) (g : Nat → Nat) : Nat → Option Nat := fun j => if j < n then some (g j) else none
/-- what the cell of an index holds, by its numbers r (and the long ones w) -/
def pc_ (G : GG) (ad : ix → Nat) (i : ix) (r : Nat → Int32) (w : Nat → Int64) : va_E := match i with
  | (k, s, b, c) => match k with
    | 0 => .inr (8, [.ref (ad (1, 0, 0, 0)), .ref (ad (10, 0, 0, 0)), .ref (ad (11, 0, 0, 0)), .ref (ad (18, 0, 0, 0)), .ref (ad (20, 0, 0, 0)), .ref (ad (24, 0, 0, 0)), .ref (ad (25, 0, 0, 0)), .ref (ad (26, 0, 0, 0)), .ref (ad (28, 0, 0, 0))])
    | 1 => .inr (5, [.ref (ad (2, s, 0, 0))])
    | 2 => arR (G.2 3) 6 (rfs 6 fun j => ad (3, s, j, 0))
    | 3 => .inr (0, [.int (r 0), .ref (ad (4, s, b, 0)), .ref (ad (6, s, b, 0)), .ref (ad (7, s, b, 4))])
    | 4 => arR (G.2 6) 8 (rfs 8 fun j => ad (5, s, b, j))
    | 5 => arI G 4 r
    | 6 => arR (G.2 5) 4 (rfs 4 fun j => ad (7, s, b, j))
    | 7 => .inr (6, [.int (r 0), .int (r 1), .int (r 2), .int (r 3), .int (r 4), .ref (ad (8, s, b, c)), .ref (ad (9, s, b, c))])
    | 8 => arI G 4 r
    | 9 => arI G 4 r
    | 10 => arR (G.2 4) 2 (fun j => if r j = 0 then none else some (ad (1, j + 1, 0, 0)))
    | 11 => .inr (1, [.int (r 0), .ref (ad (12, 0, 0, 0)), .ref (ad (13, 0, 0, 0)), .ref (ad (14, 0, 0, 0)), .ref (ad (15, 0, 0, 0)), .ref (ad (16, 0, 0, 0)), .ref (ad (17, 0, 0, 0)), .int (r 7), .int (r 8)])
    | 12 => arI G 60 r
    | 13 => arI G 60 r
    | 14 => arI G 60 r
    | 15 => arI G 60 r
    | 16 => arI G 60 r
    | 17 => arI G 121 r
    | 18 => .inr (3, [.ref (ad (11, 0, 0, 0)), .ref (ad (19, 0, 0, 0))])
    | 19 => arI G 60 r
    | 20 => .inr (2, [.ref (ad (21, 0, 0, 0)), .ref (ad (22, 0, 0, 0)), .ref (ad (23, 0, 0, 0)), .ref (ad (11, 0, 0, 0))])
    | 21 => arI G 60 r
    | 22 => arI G 60 r
    | 23 => arI G 60 r
    | 24 => arI G 4 r
    | 25 => arI G 6 r
    | 26 => .inr (4, [.int (r 0), .ref (ad (27, 0, 0, 0))])
    | 27 => .inl (G.2 1, 48, .inr (.inl w))
    | 28 => .inr (7, [.int (r 0), .int (r 1), .int (r 2), .int (r 3)])
    | 29 => .inr (9, [.ref (ad (30, 0, 0, 0)), .ref (ad (31, 0, 0, 0)), .ref (ad (32, 0, 0, 0)), .ref (ad (33, 0, 0, 0)), .int (r 4), .ref (ad (34, 0, 0, 0)), .ref (ad (35, 0, 0, 0)), .ref (ad (36, 0, 0, 0)), .ref (ad (37, 0, 0, 0)), .ref (ad (38, 0, 0, 0)), .ref (ad (39, 0, 0, 0)), .ref (ad (40, 0, 0, 0)), .ref (ad (41, 0, 0, 0)), .ref (ad (42, 0, 0, 0)), .ref (ad (43, 0, 0, 0)), .ref (ad (44, 0, 0, 0)), .ref (ad (45, 0, 0, 0)), .ref (ad (46, 0, 0, 0))])
    | 30 => arI G 192 r
    | 31 => arI G 6 r
    | 32 => arI G 288 r
    | 33 => arI G 12 r
    | 34 => arI G 60 r
    | 35 => arI G 60 r
    | 36 => arI G 60 r
    | 37 => arI G 60 r
    | 38 => arI G 60 r
    | 39 => arI G 200 r
    | 40 => arI G 60 r
    | 41 => arI G 4 r
    | 42 => arI G 60 r
    | 43 => arI G 60 r
    | 44 => arI G 60 r
    | 45 => arI G 1000 r
    | 46 => .inl (G.2 2, 2, .inl r)
    | _ => arI G 0 r
def pic (G : GG) (ad : ix → Nat) (M : Mem) (i : ix) : va_E := pc_ G ad i (M.1 i) M.2
/-- a row of numbers of the cell i, put in the place of the old ones -/
def mr (M : Mem) (i : ix) (r : Nat → Int32) : Mem := (fun j => if j = i then r else M.1 j, M.2)
def mu (M : Mem) (i : ix) (k : Nat) (v : Int32) : Mem := mr M i (upd (M.1 i) k v)
def ml (M : Mem) (k : Nat) (v : Int64) : Mem := (M.1, vp_updL M.2 k v)
def isI (i : ix) (n : Nat) : Prop := ∀ (G : GG) (ad : ix → Nat) (r : Nat → Int32) (w : Nat → Int64), pc_ G ad i r w = arI G n r
theorem mr_at (M : Mem) (i : ix) (r : Nat → Int32) : (mr M i r).1 i = r := if_pos rfl
theorem mr_ne (M : Mem) {i j : ix} (r : Nat → Int32) (h : j ≠ i) : (mr M i r).1 j = M.1 j := if_neg h
theorem pic_mr (G : GG) (ad : ix → Nat) (M : Mem) (i : ix) (r : Nat → Int32) : pic G ad (mr M i r) i = pc_ G ad i r M.2 := by
  show pc_ G ad i ((mr M i r).1 i) (mr M i r).2 = _
  rw [mr_at]; rfl
theorem pic_ne (G : GG) (ad : ix → Nat) (M : Mem) {i j : ix} (r : Nat → Int32) (h : j ≠ i) : pic G ad (mr M i r) j = pic G ad M j := by
  show pc_ G ad j ((mr M i r).1 j) (mr M i r).2 = _
  rw [mr_ne M r h]; rfl
theorem pc_w {G : GG} {ad : ix → Nat} {i : ix} {r : Nat → Int32} {w w2 : Nat → Int64} (h : i.1 ≠ 27) : pc_ G ad i r w = pc_ G ad i r w2 := by
  obtain ⟨k, s, b, c⟩ := i
  unfold pc_
  dsimp only at h ⊢
  split <;> first | rfl | exact absurd rfl h
/-- the heap holds the cells I, at the addresses ad, with the numbers M -/
def wd (G : GG) (I : ix → Prop) (ad : ix → Nat) (M : Mem) (H : Heap) : Prop := (∀ i, I i → va_at G.1 vwCl (ad i, pic G ad M i) H) ∧ ∀ i j, I i → I j → ad i = ad j → i = j
def fA (I : ix → Prop) (ad : ix → Nat) : Nat → Prop := fun q => ∃ i, I i ∧ ad i = q
theorem wd.one {G : GG} {I : ix → Prop} {ad : ix → Nat} {M : Mem} {H : Heap} (h : wd G I ad M H) {i : ix} (hi : I i) : va_P G.1 vwCl [(ad i, pic G ad M i)] H := by
  intro k q hk
  cases k with
  | zero => cases hk; exact h.1 i hi
  | succ k => cases hk
theorem wd.oneD {I : ix → Prop} {ad : ix → Nat} {i : ix} (hi : I i) (e : va_E) : va_D (fA I ad) [(ad i, e)] := by
  refine ⟨fun a b p q ha hb _ => ?_, fun k q hk => ?_⟩
  · have h1 := (List.getElem?_eq_some_iff.mp ha).1
    have h2 := (List.getElem?_eq_some_iff.mp hb).1
    simp at h1 h2
    omega
  · cases k with
    | zero => cases hk; exact ⟨i, hi, rfl⟩
    | succ k => cases hk
theorem wd.set {G : GG} {I : ix → Prop} {ad : ix → Nat} {M : Mem} {H H1 : Heap} (h : wd G I ad M H) {i : ix} (hi : I i) {r : Nat → Int32} (he : va_at G.1 vwCl (ad i, pc_ G ad i r M.2) H1) (oq : ∀ q : Nat, q ≠ ad i → H1[q]? = H[q]?) : wd G I ad (mr M i r) H1 := by
  refine ⟨fun j hj => ?_, h.2⟩
  by_cases e : j = i
  · subst e
    rw [pic_mr]
    exact he
  · rw [pic_ne G ad M r e]
    exact (h.1 j hj).kept (oq (ad j) (fun z => e (h.2 j i hj hi z)))
theorem wd.setL {G : GG} {I : ix → Prop} {ad : ix → Nat} {M : Mem} {H H1 : Heap} (h : wd G I ad M H) (hi : I (27, 0, 0, 0)) (hI : ∀ j, I j → j.1 = 27 → j = (27, 0, 0, 0)) {w : Nat → Int64} (he : va_at G.1 vwCl (ad (27, 0, 0, 0), .inl (G.2 1, 48, .inr (.inl w))) H1) (oq : ∀ q : Nat, q ≠ ad (27, 0, 0, 0) → H1[q]? = H[q]?) : wd G I ad (M.1, w) H1 := by
  refine ⟨fun j hj => ?_, h.2⟩
  by_cases e : j.1 = 27
  · rw [hI j hj e]
    exact he
  · have e1 : pic G ad (M.1, w) j = pic G ad M j := pc_w e
    rw [e1]
    exact (h.1 j hj).kept (oq (ad j) (fun z => e (by rw [h.2 j _ hj hi z])))
abbrev tyL (cy : Nat → ClassId) : List (ClassId × FieldType) := [(cy 0, .int), (cy 1, .long), (cy 2, .boolean), (cy 3, .object RX0), (cy 4, .object RX5), (cy 5, .object RX6), (cy 6, .array .int)]
abbrev nestL : List (String × Nat × MethodName) := [(RX1, 65, yX8_isLetter), (RX1, 68, yX8_isFigure), (RX1, 71, yX8_at), (RX1, 79, yX8_hasSecond), (RX3, 38, yX8_at), (RX3, 42, yX8_notOf), (RX3, 49, yX8_bothOf), (RX3, 53, yX8_eitherOf), (RX3, 57, yX8_isLetter), (RX3, 61, yX8_isFigure), (RX3, 67, yX8_sumOf), (RX2, 48, yX8_at), (RX2, 69, yX8_isColumn), (RX2, 87, yX8_chanceOf), (RX2, 90, yX8_notOf), (RX2, 93, yX8_bothOf), (RX2, 97, yX8_eitherOf), (RX2, 100, yX8_isLetter), (RX2, 103, yX8_isFigure), (RX2, 106, yX8_isSum), (RX2, 137, yX8_sumOf), (RX4, 21, yX8_at)]
/-- what the tables say of the classes, of the arrays' classes, of the nest's private methods -/
def wK (G : GG) (U : State) : Prop := va_K G.1 vwCl (tyL G.2) U ∧ ∀ q ∈ nestL, va_Nw (.methodLinkNest q.1 q.2.1 q.2.2 "BlockTruths") U
theorem wK.warm {G : GG} {s U : State} (hW : s.WarmedH U.vm) (h : wK G s) : wK G U := ⟨va_K.moved hW.alike h.1, fun q hq => va_Nw.warmM hW (h.2 q hq)⟩
theorem wK.blind {G : GG} {I : ix → Prop} {ad : ix → Nat} {M : Mem} {vs : List Value} : FrameBlind (va_Pc vs (fun U => wd G I ad M U.heap ∧ wK G U)) := by
  intro a U g mk q
  obtain ⟨h1, h2, h3, h4⟩ := q
  exact ⟨h1, h2, va_K.moved (u := U) (U := U.calling g mk a) (Vm.Alike.refl U.vm) h3, fun q hq => va_Nw.same rfl rfl (h4 q hq)⟩
/-- a method's fixed things -/
def cx (p : Program) (s : State) (m : MethodId) (args : Array Value) (meth : Method) (c : Code) (cc : ByteArray) (nL : Nat) (rt : Option FieldType) (own : String) (G : GG) : Prop :=
  p.tables.exec = Jvm.exec ∧ c.code = cc ∧ c.maxLocals = nL ∧ s.vm.findClass own = some m.cls ∧ (∀ w ∈ WG, w.before args s = true) ∧ meth.sig.returnType = rt ∧ meth.locks = false ∧ wK G s
theorem if_t {c A B : Prop} [Decidable c] (h : c) (hw : if c then A else B) : A := by rwa [if_pos h] at hw
theorem if_f {c A B : Prop} [Decidable c] (h : ¬ c) (hw : if c then A else B) : B := by rwa [if_neg h] at hw
theorem in_lt {x : Int32} {n : Nat} (h : vp_in x n) : x.toNatClampNeg < n := Nat.not_le.mp fun q => h (Or.inr q)
abbrev qI (G : GG) (I : ix → Prop) (ad : ix → Nat) (Q : Int32 → Mem → Prop) : Array Value → State → Outcome → State → Prop := va_Qi Q (fun (M : Mem) (t : State) => wd G I ad M t.heap) (fA I ad)
abbrev qV (G : GG) (I : ix → Prop) (ad : ix → Nat) (Q : Mem → Prop) : Array Value → State → Outcome → State → Prop := va_Qv Q (fun (M : Mem) (t : State) => wd G I ad M t.heap) (fA I ad)
section RW
variable {p : Program} {l : Launch} {e : Env} {R : Room} {s : State} {m : MethodId} {args : Array Value} {below : List Frame} {meth : Method} {c : Code} {H : Heap} {locs : List Loc} {cells slots : Nat} {Q : State → Prop}
variable {cc : ByteArray} {pc nL index : Nat} {ls : Array Slot} {rest : List Value} {rt : Option FieldType} {own : String} {G : GG} {I : ix → Prop} {ad : ix → Nat} {M : Mem} {i : ix}
theorem r_get (C : cx p s m args meth c cc nL rt own G) (hP : wd G I ad M H) (hi : I i) {ci : Nat} {fs : List Value} (he : pic G ad M i = .inr (ci, fs)) {Cn : String} {T : u_T} {N : Nat} (hin : ∀ w ∈ u_ws Cn T N, w ∈ WG) (hc : vwCl[ci]? = some (Cn, T, N)) (k : Nat) (hk : k < N) (hlink : Cond.fieldLink own index (T k).1 (T k).2.1 (T k).2.2.1 ∈ WG) {v : Value} (hv : fs[k]? = some v) (hdg : decode cc pc = .ok (.getfield index, 3))
    (kk : W p l e R s m args below meth c H locs cells slots Q (F0 m (pc + 3) ls (v :: rest))) : W p l e R s m args below meth c H locs cells slots Q (F0 m pc ls (.ref (ad i) :: rest)) := by
  obtain ⟨hx, hb, -, hown, hts, -, -, hK, -⟩ := C
  have hP1 := hP.one hi
  rw [he] at hP1
  exact va_get (D := G.1) hx hb hts hin hown hK hP1 0 rfl hc k hk (hts _ hlink) (fun _ h => h) hv hdg kk
theorem r_put (C : cx p s m args meth c cc nL rt own G) (hP : wd G I ad M H) (hS : va_S (fA I ad) s.heap H locs) (hi : I i) {ci : Nat} {fs : List Value} (he : pic G ad M i = .inr (ci, fs)) {Cn : String} {T : u_T} {N : Nat} (hin : ∀ w ∈ u_ws Cn T N, w ∈ WG) (ty0 : Nat → FieldType) (hty : ∀ k, k < N → parseFieldDescriptor (T k).2.2.1 = some (ty0 k)) (hnm : ∀ a, a < N → ∀ b, b < N → a ≠ b → (T a).2.1 ≠ (T b).2.1) (hc : vwCl[ci]? = some (Cn, T, N)) (k : Nat) (hk : k < N) (hlink : Cond.fieldLink own index (T k).1 (T k).2.1 (T k).2.2.1 ∈ WG) (hfin : (T k).2.2.2 = false) {ty : FieldType} {v : Int32} (hd : parseFieldDescriptor (T k).2.2.1 = some ty) (hn : narrow ty (.int v) = .int v) (hfit : fits ty (.int v) = true) (hl : k < fs.length)
    (hset : pc_ G ad i (upd (M.1 i) k v) M.2 = .inr (ci, fs.set k (.int v))) (hdg : decode cc pc = .ok (.putfield index, 3))
    (kk : ∀ (H1 : Heap) (locs1 : List Loc), wd G I ad (mu M i k v) H1 → va_S (fA I ad) s.heap H1 locs1 → W p l e R s m args below meth c H1 locs1 cells slots Q (F0 m (pc + 3) ls rest)) : W p l e R s m args below meth c H locs cells slots Q (F0 m pc ls (.int v :: .ref (ad i) :: rest)) := by
  obtain ⟨hx, hb, -, hown, hts, -, -, hK0, -⟩ := C
  have hK := hK0
  have hP1 := hP.one hi
  rw [he] at hP1
  have hap := va_apart (own := own) hts hin ty0 hty hnm hK hc
  obtain ⟨r, h1, cell, q1, q2, q3, q4⟩ := hP1 0 _ rfl
  have hr : r = (Cn, T, N) := Option.some.inj (h1.symm.trans hc)
  subst hr
  obtain ⟨hSl, hfc, kC, hkC, hkind⟩ := hK.1 ci _ hc
  obtain ⟨cf, kf, fi, f, hi2, hsl⟩ := hSl k hk
  have hlay := hts _ (hin _ (u_in_lay hk))
  unfold u_lay at hlay
  rw [if_neg (by rw [hfin]; decide)] at hlay
  have hst := (u_facts hfc hkC (u_lays hts hin hk) hi2).1
  have h6 := u_store hfc hkC hkind hlay hi2 hd hn hfit
  refine W.putK hx hb (f := f) ⟨hown, hts _ hlink, ⟨_, _, _, hi2⟩, hst⟩ (by rw [q2]; exact h6) q1 q3 (by rw [hsl]; exact k2_hasslot (q4 k hk)) rfl rfl hdg fun H' e1 e2 e3 => ?_
  rw [hsl] at e1 ⊢
  refine kk H' _ (hP.set hi ?_ e3) (hS.put e2 e3 ⟨i, hi, rfl⟩)
  rw [hset]
  exact ⟨_, hc, t_OB.to (V := updV (vp_V fs) k (.int v)) ⟨_, e1, q2, q3, t_set q4 hap hk (.int v)⟩ (fun j _ => vp_updV_set hl (.int v) j)⟩
theorem r_iald (C : cx p s m args meth c cc nL rt own G) (hP : wd G I ad M H) (hi : I i) {n : Nat} (hn : isI i n) {x : Int32} (hin : vp_in x n) (hdg : decode cc pc = .ok (.iaload, 1))
    (kk : W p l e R s m args below meth c H locs cells slots Q (F0 m (pc + 1) ls (.int (M.1 i x.toNatClampNeg) :: rest))) : W p l e R s m args below meth c H locs cells slots Q (F0 m pc ls (.int x :: .ref (ad i) :: rest)) := by
  obtain ⟨hx, hb, -, hown, hts, -, -, hK, -⟩ := C
  have hP1 := hP.one hi
  unfold pic at hP1
  rw [hn] at hP1
  exact va_iald hx hb hK hP1 0 0 rfl rfl hin hdg kk
theorem r_iast (C : cx p s m args meth c cc nL rt own G) (hP : wd G I ad M H) (hS : va_S (fA I ad) s.heap H locs) (hi : I i) {n : Nat} (hn : isI i n) {x v : Int32} (hin : vp_in x n) (hdg : decode cc pc = .ok (.iastore, 1))
    (kk : ∀ (H1 : Heap) (locs1 : List Loc), wd G I ad (mu M i x.toNatClampNeg v) H1 → va_S (fA I ad) s.heap H1 locs1 → W p l e R s m args below meth c H1 locs1 cells slots Q (F0 m (pc + 1) ls rest)) : W p l e R s m args below meth c H locs cells slots Q (F0 m pc ls (.int v :: .int x :: .ref (ad i) :: rest)) := by
  obtain ⟨hx, hb, -, hown, hts, -, -, hK, -⟩ := C
  have hP1 := hP.one hi
  unfold pic at hP1
  rw [hn] at hP1
  refine W.iast hx hb (hP1 0 _ rfl) ((hK.2 0 _ rfl).1 n (fun j => .int (M.1 i j))) (fun q => by cases q) (by show ¬ (x < 0 ∨ (arrV _ _ _).slots.size ≤ _); rw [arrV_size]; exact hin) rfl rfl hdg fun H1 e z oq => ?_
  refine kk H1 _ (hP.set hi ?_ oq) (hS.put z oq ⟨i, hi, rfl⟩)
  rw [hn]
  show H1[ad i]? = some (vp_cell _ _)
  rw [e]
  rw [vp_cell_i, vp_cell_i, arrV_store]
  congr 2
  funext q
  by_cases hq : q = x.toNatClampNeg
  · subst hq
    simp [updV, upd]
  · simp [updV, upd, hq]
theorem r_alen (C : cx p s m args meth c cc nL rt own G) (hP : wd G I ad M H) (hi : I i) {n : Nat} (hn : isI i n) {v : Int32} (hv : Int32.ofNat n = v) (hdg : decode cc pc = .ok (.arraylength, 1))
    (kk : W p l e R s m args below meth c H locs cells slots Q (F0 m (pc + 1) ls (.int v :: rest))) : W p l e R s m args below meth c H locs cells slots Q (F0 m pc ls (.ref (ad i) :: rest)) := by
  obtain ⟨hx, hb, -, hown, hts, -, -, hK, -⟩ := C
  have hP1 := hP.one hi
  unfold pic at hP1
  rw [hn] at hP1
  exact va_alen hx hb hK hP1 0 0 rfl rfl hv hdg kk
theorem r_alenL (C : cx p s m args meth c cc nL rt own G) (hP : wd G I ad M H) (hi : I (27, 0, 0, 0)) (hdg : decode cc pc = .ok (.arraylength, 1))
    (kk : W p l e R s m args below meth c H locs cells slots Q (F0 m (pc + 1) ls (.int 48 :: rest))) : W p l e R s m args below meth c H locs cells slots Q (F0 m pc ls (.ref (ad (27, 0, 0, 0)) :: rest)) := by
  obtain ⟨hx, hb, -, hown, hts, -, -, hK, -⟩ := C
  exact va_alen hx hb hK (hP.one hi) 0 1 rfl rfl rfl hdg kk
theorem rfs_lt {n : Nat} {g : Nat → Nat} {j : Nat} (h : j < n) : va_rf (rfs n g j) = .ref (g j) := by
  unfold rfs
  rw [if_pos h]; rfl
theorem r_aald2 {s0 : Nat} (C : cx p s m args meth c cc nL rt own G) (hP : wd G I ad M H) (hi : I (2, s0, 0, 0)) {x : Int32} (hin : vp_in x 6) (hdg : decode cc pc = .ok (.aaload, 1))
    (kk : W p l e R s m args below meth c H locs cells slots Q (F0 m (pc + 1) ls (.ref (ad (3, s0, x.toNatClampNeg, 0)) :: rest))) : W p l e R s m args below meth c H locs cells slots Q (F0 m pc ls (.int x :: .ref (ad (2, s0, 0, 0)) :: rest)) := by
  obtain ⟨hx, hb, -, hown, hts, -, -, hK, -⟩ := C
  exact va_aldq (C := RX0) hx hb hK (hP.one hi) 0 3 rfl rfl hin hdg (by rw [rfs_lt (in_lt hin)]; exact kk)
theorem r_aald6 {s0 b0 : Nat} (C : cx p s m args meth c cc nL rt own G) (hP : wd G I ad M H) (hi : I (6, s0, b0, 0)) {x : Int32} (hin : vp_in x 4) (hdg : decode cc pc = .ok (.aaload, 1))
    (kk : W p l e R s m args below meth c H locs cells slots Q (F0 m (pc + 1) ls (.ref (ad (7, s0, b0, x.toNatClampNeg)) :: rest))) : W p l e R s m args below meth c H locs cells slots Q (F0 m pc ls (.int x :: .ref (ad (6, s0, b0, 0)) :: rest)) := by
  obtain ⟨hx, hb, -, hown, hts, -, -, hK, -⟩ := C
  exact va_aldq (C := RX6) hx hb hK (hP.one hi) 0 5 rfl rfl hin hdg (by rw [rfs_lt (in_lt hin)]; exact kk)
theorem r_aald4 {s0 b0 : Nat} (C : cx p s m args meth c cc nL rt own G) (hP : wd G I ad M H) (hi : I (4, s0, b0, 0)) {x : Int32} (hin : vp_in x 8) (hdg : decode cc pc = .ok (.aaload, 1))
    (kk : W p l e R s m args below meth c H locs cells slots Q (F0 m (pc + 1) ls (.ref (ad (5, s0, b0, x.toNatClampNeg)) :: rest))) : W p l e R s m args below meth c H locs cells slots Q (F0 m pc ls (.int x :: .ref (ad (4, s0, b0, 0)) :: rest)) := by
  obtain ⟨hx, hb, -, hown, hts, -, -, hK, -⟩ := C
  have hP1 : H[ad (4, s0, b0, 0)]? = some (vp_cell (G.2 6) (8, .inr (.inr (.inr (.inr (rfs 8 fun j => ad (5, s0, b0, j))))))) := hP.1 _ hi
  have hlt := in_lt hin
  refine W.aald (v := va_rf (rfs 8 (fun j => ad (5, s0, b0, j)) x.toNatClampNeg)) (ty := .array .int) hx hb hP1 ((hK.2 6 _ rfl).1 8 (fun j => va_rf (rfs 8 (fun j => ad (5, s0, b0, j)) j))) rfl (fun q => by cases q) (by show ¬ (x < 0 ∨ (arrV _ _ _).slots.size ≤ _); rw [arrV_size]; exact hin) (by show (arrV _ _ _).slots[_]? = _; rw [arrV_read _ _ hlt]) rfl rfl hdg ?_
  rw [rfs_lt hlt]
  exact kk
theorem r_aald10 (C : cx p s m args meth c cc nL rt own G) (hP : wd G I ad M H) (hi : I (10, 0, 0, 0)) {x : Int32} (hin : vp_in x 2) (hdg : decode cc pc = .ok (.aaload, 1))
    (kk : W p l e R s m args below meth c H locs cells slots Q (F0 m (pc + 1) ls (va_rf (if M.1 (10, 0, 0, 0) x.toNatClampNeg = 0 then none else some (ad (1, x.toNatClampNeg + 1, 0, 0))) :: rest))) : W p l e R s m args below meth c H locs cells slots Q (F0 m pc ls (.int x :: .ref (ad (10, 0, 0, 0)) :: rest)) := by
  obtain ⟨hx, hb, -, hown, hts, -, -, hK, -⟩ := C
  exact va_aldq (C := RX5) hx hb hK (hP.one hi) 0 4 rfl rfl hin hdg kk
theorem r_lald (C : cx p s m args meth c cc nL rt own G) (hP : wd G I ad M H) (hi : I (27, 0, 0, 0)) {x : Int32} (hin : vp_in x 48) (hdg : decode cc pc = .ok (.laload, 1))
    (kk : W p l e R s m args below meth c H locs cells slots Q (F0 m (pc + 1) ls (.long (M.2 x.toNatClampNeg) :: rest))) : W p l e R s m args below meth c H locs cells slots Q (F0 m pc ls (.int x :: .ref (ad (27, 0, 0, 0)) :: rest)) := by
  obtain ⟨hx, hb, -, hown, hts, -, -, hK, -⟩ := C
  exact va_lald hx hb hK (hP.one hi) 0 1 rfl rfl hin hdg kk
theorem g_last {D : va_G} {cl : List vw_C} {tys : List (ClassId × FieldType)} {a n t0 : Nat} {cA : ClassId} {f : Nat → Int64} {x : Int32} {v : Int64} (hx : p.tables.exec = Jvm.exec) (hb : c.code = cc) (hK : va_K D cl tys s) (ht : tys[t0]? = some (cA, .long)) (hcell : H[a]? = some (vp_cell cA (n, .inr (.inl f)))) (hin : vp_in x n) (hdg : decode cc pc = .ok (.lastore, 1))
    (kk : ∀ (H1 : Heap) (k : Nat), H1[a]? = some (vp_cell cA (n, .inr (.inl (vp_updL f x.toNatClampNeg v)))) → H1.size = H.size → (∀ q : Nat, q ≠ a → H1[q]? = H[q]?) → W p l e R s m args below meth c H1 (locs ++ [⟨a, k⟩]) cells slots Q (F0 m (pc + 1) ls rest)) : W p l e R s m args below meth c H locs cells slots Q (F0 m pc ls (.long v :: .int x :: .ref a :: rest)) := by
  refine W.last hx hb hcell ((hK.2 t0 _ ht).1 n (fun j => .long (f j))) (fun q => by cases q) (by show ¬ (x < 0 ∨ (arrV _ _ _).slots.size ≤ _); rw [arrV_size]; exact hin) rfl rfl hdg fun H1 e z oq => ?_
  refine kk H1 _ ?_ z oq
  rw [e]
  rw [vp_cell_l, vp_cell_l, arrV_store]
  congr 2
  funext q
  by_cases hq : q = x.toNatClampNeg
  · subst hq
    simp [updV, vp_updL]
  · simp [updV, vp_updL, hq]
theorem r_last (C : cx p s m args meth c cc nL rt own G) (hP : wd G I ad M H) (hS : va_S (fA I ad) s.heap H locs) (hi : I (27, 0, 0, 0)) (hI : ∀ j, I j → j.1 = 27 → j = (27, 0, 0, 0)) {x : Int32} {v : Int64} (hin : vp_in x 48) (hdg : decode cc pc = .ok (.lastore, 1))
    (kk : ∀ (H1 : Heap) (locs1 : List Loc), wd G I ad (ml M x.toNatClampNeg v) H1 → va_S (fA I ad) s.heap H1 locs1 → W p l e R s m args below meth c H1 locs1 cells slots Q (F0 m (pc + 1) ls rest)) : W p l e R s m args below meth c H locs cells slots Q (F0 m pc ls (.long v :: .int x :: .ref (ad (27, 0, 0, 0)) :: rest)) := by
  obtain ⟨hx, hb, -, hown, hts, -, -, hK, -⟩ := C
  have hP1 := hP.1 _ hi
  exact g_last (t0 := 1) hx hb hK rfl hP1 hin hdg fun H1 k e1 z oq => kk H1 _ (hP.setL hi hI e1 oq) (hS.put z oq ⟨_, hi, rfl⟩)
theorem r_zald (C : cx p s m args meth c cc nL rt own G) (hP : wd G I ad M H) (hi : I (46, 0, 0, 0)) {x : Int32} (hin : vp_in x 2) (hdg : decode cc pc = .ok (.baload, 1))
    (kk : W p l e R s m args below meth c H locs cells slots Q (F0 m (pc + 1) ls (.int (M.1 (46, 0, 0, 0) x.toNatClampNeg) :: rest))) : W p l e R s m args below meth c H locs cells slots Q (F0 m pc ls (.int x :: .ref (ad (46, 0, 0, 0)) :: rest)) := by
  obtain ⟨hx, hb, -, hown, hts, -, -, hK, -⟩ := C
  exact va_zald hx hb hK (hP.one hi) 0 2 rfl rfl hin hdg kk
theorem r_zast (C : cx p s m args meth c cc nL rt own G) (hP : wd G I ad M H) (hS : va_S (fA I ad) s.heap H locs) (hi : I (46, 0, 0, 0)) {x v : Int32} (hin : vp_in x 2) (hdg : decode cc pc = .ok (.bastore, 1))
    (kk : ∀ (H1 : Heap) (locs1 : List Loc), wd G I ad (mu M (46, 0, 0, 0) x.toNatClampNeg (vp_nar .boolean v)) H1 → va_S (fA I ad) s.heap H1 locs1 → W p l e R s m args below meth c H1 locs1 cells slots Q (F0 m (pc + 1) ls rest)) : W p l e R s m args below meth c H locs cells slots Q (F0 m pc ls (.int v :: .int x :: .ref (ad (46, 0, 0, 0)) :: rest)) := by
  obtain ⟨hx, hb, -, hown, hts, -, -, hK, -⟩ := C
  have hP1 : H[ad (46, 0, 0, 0)]? = some (vp_cell (G.2 2) (2, .inl (M.1 (46, 0, 0, 0)))) := hP.1 _ hi
  refine W.zast hx hb hP1 ((hK.2 2 _ rfl).1 2 (fun j => .int (M.1 (46, 0, 0, 0) j))) (fun q => by cases q) (by show ¬ (x < 0 ∨ (arrV _ _ _).slots.size ≤ _); rw [arrV_size]; exact hin) rfl rfl hdg fun H1 e z oq => ?_
  refine kk H1 _ (hP.set hi ?_ oq) (hS.put z oq ⟨_, hi, rfl⟩)
  show H1[ad (46, 0, 0, 0)]? = some (vp_cell _ _)
  rw [e]
  rw [vp_cell_i, vp_cell_i, arrV_store]
  congr 2
  funext q
  by_cases hq : q = x.toNatClampNeg
  · subst hq
    simp [updV, upd]
    try rfl
  · simp [updV, upd, hq]
theorem r_iret {Qp : Int32 → Mem → Prop} {v : Int32} (C : cx p s m args meth c cc nL (some .int) own G) (hP : wd G I ad M H) (hS : va_S (fA I ad) s.heap H locs) (hq : Qp v M) (hdg : decode cc pc = .ok (.ireturn, 1)) : W p l e R s m args below meth c H locs cells slots (MQ below (qI G I ad Qp) args s cells slots (fA I ad)) (F0 m pc ls [.int v]) := by
  obtain ⟨hx, hb, -, -, -, hr, hlocks, -⟩ := C
  exact W.iret hx hb hr (fun t ht _ => ⟨⟨v, M, rfl, hq, by show wd G I ad M t.heap; rw [ht]; exact hP⟩, hS.F ht⟩) hS.2.2 hdg hlocks
theorem r_zret {Qp : Int32 → Mem → Prop} {v : Int32} (C : cx p s m args meth c cc nL (some .boolean) own G) (hP : wd G I ad M H) (hS : va_S (fA I ad) s.heap H locs) (hv : v = 0 ∨ v = 1) (hq : Qp v M) (hdg : decode cc pc = .ok (.ireturn, 1)) : W p l e R s m args below meth c H locs cells slots (MQ below (qI G I ad Qp) args s cells slots (fA I ad)) (F0 m pc ls [.int v]) := by
  obtain ⟨hx, hb, -, -, -, hr, hlocks, -⟩ := C
  exact W.zret hx hb hr (by rcases hv with rfl | rfl <;> rfl) (fun t ht _ => ⟨⟨v, M, rfl, hq, by show wd G I ad M t.heap; rw [ht]; exact hP⟩, hS.F ht⟩) hS.2.2 hdg hlocks
theorem r_vret {Qp : Mem → Prop} (C : cx p s m args meth c cc nL none own G) (hP : wd G I ad M H) (hS : va_S (fA I ad) s.heap H locs) (hq : Qp M) (hdg : decode cc pc = .ok (.return_, 1)) : W p l e R s m args below meth c H locs cells slots (MQ below (qV G I ad Qp) args s cells slots (fA I ad)) (F0 m pc ls []) := by
  obtain ⟨hx, hb, -, -, -, hr, hlocks, -⟩ := C
  exact W.vret hx hb hr (fun t ht _ => ⟨⟨M, rfl, hq, by show wd G I ad M t.heap; rw [ht]; exact hP⟩, hS.F ht⟩) hS.2.2 hdg hlocks
theorem r_max (C : cx p s m args meth c cc nL rt own G) (hls : ls.size = nL) (hlink : Cond.methodLink own index Lib.Math.max.name ∈ WG) (hstat : Cond.static Lib.Math.max.name ∈ WG) (hini : Cond.initialized "java/lang/Math" ∈ WG) (hcode : Cond.code Lib.Math.max.name Lib.Math.max.code 2 (some .int) ∈ WG) (hframes : 1 ≤ R.frames) (hlocals : (rest.map fun v => v.category).sum + 13 ≤ R.locals) (hc : cells ≤ R.cells) (hs : slots ≤ R.slots) {x y : Int32} (hdg : decode cc pc = .ok (.invokestatic index, 3))
    (kk : W p l e R s m args below meth c H locs cells slots Q (F0 m (pc + 3) ls (.int (if x < y then y else x) :: rest))) : W p l e R s m args below meth c H locs cells slots Q (F0 m pc ls (.int y :: .int x :: rest)) := by
  obtain ⟨hx, hb, hml, hown, hts, -⟩ := C
  exact va_mmax hx hb (by rw [hml, hls]) hown (hts _ hlink) (hts _ hstat) (hts _ hini) (hts _ hcode) hframes hlocals hc hs hdg kk
theorem r_min (C : cx p s m args meth c cc nL rt own G) (hls : ls.size = nL) (hlink : Cond.methodLink own index Lib.Math.min.name ∈ WG) (hstat : Cond.static Lib.Math.min.name ∈ WG) (hini : Cond.initialized "java/lang/Math" ∈ WG) (hcode : Cond.code Lib.Math.min.name Lib.Math.min.code 2 (some .int) ∈ WG) (hframes : 1 ≤ R.frames) (hlocals : (rest.map fun v => v.category).sum + 13 ≤ R.locals) (hc : cells ≤ R.cells) (hs : slots ≤ R.slots) {x y : Int32} (hdg : decode cc pc = .ok (.invokestatic index, 3))
    (kk : W p l e R s m args below meth c H locs cells slots Q (F0 m (pc + 3) ls (.int (if y < x then y else x) :: rest))) : W p l e R s m args below meth c H locs cells slots Q (F0 m pc ls (.int y :: .int x :: rest)) := by
  obtain ⟨hx, hb, hml, hown, hts, -⟩ := C
  exact va_mmin hx hb (by rw [hml, hls]) hown (hts _ hlink) (hts _ hstat) (hts _ hini) (hts _ hcode) hframes hlocals hc hs hdg kk
/-- a call of an instance method that answers an int, one that answers nothing; static ones; a nest mate's private static ones -/
theorem r_cVI {y : MethodName} {by_ : ByteArray} {mL n : Nat} {rv : Option FieldType} {rm : Room} {As : List Value} {Cn : String} {Qp : Int32 → Mem → Prop} {st0 : List Value} {ci N : Nat} {T : u_T} {fs : List Value} (C : cx p s m args meth c cc nL rt own G) (hls : ls.size = nL) (hP : wd G I ad M H) (hS : va_S (fA I ad) s.heap H locs)
    (hM : Met l y (wW y by_ mL rv) rm (va_Pc (.ref (ad i) :: As) (fun U => wd G I ad M U.heap ∧ wK G U)) (qI G I ad Qp) 0 0 (fA I ad)) (hi : I i) (he : pic G ad M i = .inr (ci, fs)) (hc : vwCl[ci]? = some (Cn, T, N))
    (hl : Cond.methodLink own index y ∈ WG) (h1 : Cond.instanceMethod y ∈ WG) (h2 : Cond.selects Cn y y ∈ WG) (h3 : Cond.initialized y.cls ∈ WG) (h4 : Cond.code y by_ mL rv ∈ WG) (hrm : rm.cells = 0 ∧ rm.slots = 0)
    (hd : y.cls ≠ "java/lang/invoke/MethodHandle" ∧ y.cls ≠ "java/lang/invoke/VarHandle" ∧ (parseMethodDescriptor y.desc).map (fun d => d.parameters.length) = some n) (hn : As.length = n) (hst : st0 = As.reverse ++ .ref (ad i) :: rest) (hR : rm.frames + 1 ≤ R.frames ∧ 8 + (mL + 11) + rm.locals ≤ R.locals) (hrest : (rest.map fun v => v.category).sum ≤ 8) (hcs : cells ≤ R.cells ∧ slots ≤ R.slots) (hdg : decode cc pc = .ok (.invokevirtual index, 3))
    (kk : ∀ (r : Int32) (M1 : Mem) (H1 : Heap) (locs1 : List Loc), Qp r M1 → wd G I ad M1 H1 → va_S (fA I ad) s.heap H1 locs1 → W p l e R s m args below meth c H1 locs1 cells slots Q (F0 m (pc + 3) ls (.int r :: rest))) : W p l e R s m args below meth c H locs cells slots Q (F0 m pc ls st0) := by
  obtain ⟨hx, hb, hml, hown, hts, -, -, hK⟩ := C
  have hP1 := hP.one hi
  rw [he] at hP1
  have hcw : CallW R s args own Cn index y by_ mL rv (wW y by_ mL rv) rm 0 0 n := ⟨callB_of n (Ts := WG) hts (fun w hw => (List.mem_cons.mp hw).elim (fun e => by subst e; exact ⟨h4, wg_good h4⟩) (fun hw => ⟨hw, wg_good hw⟩)) rfl hrm.1 hrm.2 (hts _ h3) (hts _ hl) hd hR, hts _ h1, hts _ h2⟩
  refine va_calli (mc := 0) (ms := 0) (va_runV (As := As) (rest := rest) ⟨hx, hb, hml, hown, hts⟩ hM hcw ⟨wK.blind, va_recv hK.1 hP1 (q0 := 0) hc rfl, fun U hU hW => ⟨rfl, by rw [hU]; exact hP, hK.warm hW⟩⟩ rfl hn hls hst (lv_room hrest) hdg hcs) hS (fun q _ h => h) (fun q h => h) (fun r u t H1 locs1 ht hvm hw hB hz1 hk1 hS1 => ?_)
  exact kk r u H1 locs1 hw (by rw [← ht]; exact hB) hS1
theorem r_cVV {y : MethodName} {by_ : ByteArray} {mL n : Nat} {rv : Option FieldType} {rm : Room} {As : List Value} {Cn : String} {Qp : Mem → Prop} {st0 : List Value} {ci N : Nat} {T : u_T} {fs : List Value} (C : cx p s m args meth c cc nL rt own G) (hls : ls.size = nL) (hP : wd G I ad M H) (hS : va_S (fA I ad) s.heap H locs)
    (hM : Met l y (wW y by_ mL rv) rm (va_Pc (.ref (ad i) :: As) (fun U => wd G I ad M U.heap ∧ wK G U)) (qV G I ad Qp) 0 0 (fA I ad)) (hi : I i) (he : pic G ad M i = .inr (ci, fs)) (hc : vwCl[ci]? = some (Cn, T, N))
    (hl : Cond.methodLink own index y ∈ WG) (h1 : Cond.instanceMethod y ∈ WG) (h2 : Cond.selects Cn y y ∈ WG) (h3 : Cond.initialized y.cls ∈ WG) (h4 : Cond.code y by_ mL rv ∈ WG) (hrm : rm.cells = 0 ∧ rm.slots = 0)
    (hd : y.cls ≠ "java/lang/invoke/MethodHandle" ∧ y.cls ≠ "java/lang/invoke/VarHandle" ∧ (parseMethodDescriptor y.desc).map (fun d => d.parameters.length) = some n) (hn : As.length = n) (hst : st0 = As.reverse ++ .ref (ad i) :: rest) (hR : rm.frames + 1 ≤ R.frames ∧ 8 + (mL + 11) + rm.locals ≤ R.locals) (hrest : (rest.map fun v => v.category).sum ≤ 8) (hcs : cells ≤ R.cells ∧ slots ≤ R.slots) (hdg : decode cc pc = .ok (.invokevirtual index, 3))
    (kk : ∀ (M1 : Mem) (H1 : Heap) (locs1 : List Loc), Qp M1 → wd G I ad M1 H1 → va_S (fA I ad) s.heap H1 locs1 → W p l e R s m args below meth c H1 locs1 cells slots Q (F0 m (pc + 3) ls rest)) : W p l e R s m args below meth c H locs cells slots Q (F0 m pc ls st0) := by
  obtain ⟨hx, hb, hml, hown, hts, -, -, hK⟩ := C
  have hP1 := hP.one hi
  rw [he] at hP1
  have hcw : CallW R s args own Cn index y by_ mL rv (wW y by_ mL rv) rm 0 0 n := ⟨callB_of n (Ts := WG) hts (fun w hw => (List.mem_cons.mp hw).elim (fun e => by subst e; exact ⟨h4, wg_good h4⟩) (fun hw => ⟨hw, wg_good hw⟩)) rfl hrm.1 hrm.2 (hts _ h3) (hts _ hl) hd hR, hts _ h1, hts _ h2⟩
  refine va_callv (mc := 0) (ms := 0) (va_runV (As := As) (rest := rest) ⟨hx, hb, hml, hown, hts⟩ hM hcw ⟨wK.blind, va_recv hK.1 hP1 (q0 := 0) hc rfl, fun U hU hW => ⟨rfl, by rw [hU]; exact hP, hK.warm hW⟩⟩ rfl hn hls hst (lv_room hrest) hdg hcs) hS (fun q _ h => h) (fun q h => h) (fun u t H1 locs1 ht hvm hw hB hz1 hk1 hS1 => ?_)
  exact kk u H1 locs1 hw (by rw [← ht]; exact hB) hS1
theorem r_cSI {y : MethodName} {by_ : ByteArray} {mL n : Nat} {rv : Option FieldType} {rm : Room} {As : List Value} {Qp : Int32 → Mem → Prop} {st0 : List Value} (C : cx p s m args meth c cc nL rt own G) (hls : ls.size = nL) (hP : wd G I ad M H) (hS : va_S (fA I ad) s.heap H locs)
    (hM : Met l y (wW y by_ mL rv) rm (va_Pc As (fun U => wd G I ad M U.heap ∧ wK G U)) (qI G I ad Qp) 0 0 (fA I ad))
    (hl : Cond.methodLink own index y ∈ WG) (h1 : Cond.static y ∈ WG) (h3 : Cond.initialized y.cls ∈ WG) (h4 : Cond.code y by_ mL rv ∈ WG) (hrm : rm.cells = 0 ∧ rm.slots = 0)
    (hd : y.cls ≠ "java/lang/invoke/MethodHandle" ∧ y.cls ≠ "java/lang/invoke/VarHandle" ∧ (parseMethodDescriptor y.desc).map (fun d => d.parameters.length) = some n) (hn : As.length = n) (hst : st0 = As.reverse ++ rest) (hR : rm.frames + 1 ≤ R.frames ∧ 8 + (mL + 11) + rm.locals ≤ R.locals) (hrest : (rest.map fun v => v.category).sum ≤ 8) (hcs : cells ≤ R.cells ∧ slots ≤ R.slots) (hdg : decode cc pc = .ok (.invokestatic index, 3))
    (kk : ∀ (r : Int32) (M1 : Mem) (H1 : Heap) (locs1 : List Loc), Qp r M1 → wd G I ad M1 H1 → va_S (fA I ad) s.heap H1 locs1 → W p l e R s m args below meth c H1 locs1 cells slots Q (F0 m (pc + 3) ls (.int r :: rest))) : W p l e R s m args below meth c H locs cells slots Q (F0 m pc ls st0) := by
  obtain ⟨hx, hb, hml, hown, hts, -, -, hK⟩ := C
  have hcw : CallB R s args own index y by_ mL rv (wW y by_ mL rv) rm 0 0 n ∧ (Cond.static y).before args s = true := ⟨callB_of n (Ts := WG) hts (fun w hw => (List.mem_cons.mp hw).elim (fun e => by subst e; exact ⟨h4, wg_good h4⟩) (fun hw => ⟨hw, wg_good hw⟩)) rfl hrm.1 hrm.2 (hts _ h3) (hts _ hl) hd hR, hts _ h1⟩
  refine va_calli (mc := 0) (ms := 0) (va_runS (As := As) (rest := rest) ⟨hx, hb, hml, hown, hts⟩ hM hcw ⟨wK.blind, fun U hU hW => ⟨rfl, by rw [hU]; exact hP, hK.warm hW⟩⟩ rfl hn hls hst (lv_room hrest) hdg hcs) hS (fun q _ h => h) (fun q h => h) (fun r u t H1 locs1 ht hvm hw hB hz1 hk1 hS1 => ?_)
  exact kk r u H1 locs1 hw (by rw [← ht]; exact hB) hS1
theorem r_cNI {y : MethodName} {by_ : ByteArray} {mL n : Nat} {rv : Option FieldType} {rm : Room} {As : List Value} {Qp : Int32 → Mem → Prop} {st0 : List Value} (C : cx p s m args meth c cc nL rt own G) (hls : ls.size = nL) (hP : wd G I ad M H) (hS : va_S (fA I ad) s.heap H locs)
    (hM : Met l y (wW y by_ mL rv) rm (va_Pc As (fun U => wd G I ad M U.heap ∧ wK G U)) (qI G I ad Qp) 0 0 (fA I ad))
    (hl : (own, index, y) ∈ nestL) (h1 : Cond.static y ∈ WG) (h3 : Cond.initialized y.cls ∈ WG) (h4 : Cond.code y by_ mL rv ∈ WG) (hrm : rm.cells = 0 ∧ rm.slots = 0)
    (hd : y.cls ≠ "java/lang/invoke/MethodHandle" ∧ y.cls ≠ "java/lang/invoke/VarHandle" ∧ (parseMethodDescriptor y.desc).map (fun d => d.parameters.length) = some n) (hn : As.length = n) (hst : st0 = As.reverse ++ rest) (hR : rm.frames + 1 ≤ R.frames ∧ 8 + (mL + 11) + rm.locals ≤ R.locals) (hrest : (rest.map fun v => v.category).sum ≤ 8) (hcs : cells ≤ R.cells ∧ slots ≤ R.slots) (hdg : decode cc pc = .ok (.invokestatic index, 3))
    (kk : ∀ (r : Int32) (M1 : Mem) (H1 : Heap) (locs1 : List Loc), Qp r M1 → wd G I ad M1 H1 → va_S (fA I ad) s.heap H1 locs1 → W p l e R s m args below meth c H1 locs1 cells slots Q (F0 m (pc + 3) ls (.int r :: rest))) : W p l e R s m args below meth c H locs cells slots Q (F0 m pc ls st0) := by
  obtain ⟨hx, hb, hml, hown, hts, -, -, hK⟩ := C
  have hcw : va_CN R s args own index y "BlockTruths" by_ mL rv (wW y by_ mL rv) rm 0 0 n ∧ (Cond.static y).before args s = true ∧ True := ⟨va_cnB n (Ts := WG) hts (fun w hw => (List.mem_cons.mp hw).elim (fun e => by subst e; exact ⟨h4, wg_good h4⟩) (fun hw => ⟨hw, wg_good hw⟩)) rfl hrm.1 hrm.2 (hK.2 _ hl) (hts _ h3) hd hR, hts _ h1, trivial⟩
  refine va_calli (mc := 0) (ms := 0) (va_runSN (As := As) (rest := rest) ⟨hx, hb, hml, hown, hts⟩ hM hcw ⟨wK.blind, fun U hU hW => ⟨rfl, by rw [hU]; exact hP, hK.warm hW⟩⟩ rfl hn hls hst (lv_room hrest) hdg hcs) hS (fun q _ h => h) (fun q h => h) (fun r u t H1 locs1 ht hvm hw hB hz1 hk1 hS1 => ?_)
  exact kk r u H1 locs1 hw (by rw [← ht]; exact hB) hS1
end RW
/-- a contract out of the walk of the body -/
theorem met_of {l : Launch} {y : MethodName} {cc : ByteArray} {mL : Nat} {rt : Option FieldType} {rm : Room} {G : GG} {I : ix → Prop} {ad : ix → Nat} {M : Mem} {vs : List Value} {Qc : Array Value → State → Outcome → State → Prop} (hy : plainName y.cls = true) (hlen : (lg_sl vs).length ≤ mL)
    (body : ∀ (p : Program) (e : Env) (s : State) (m : MethodId) (below : List Frame) (meth : Method) (c : Code), cx p s m vs.toArray meth c cc mL rt y.cls G → wd G I ad M s.heap → va_S (fA I ad) s.heap s.heap [] → ∀ ls : Array Slot, lv_has ls mL (lv_args 0 vs) → W p l e rm s m vs.toArray below meth c s.heap [] 0 0 (MQ below Qc vs.toArray s 0 0 (fA I ad)) (F0 m 0 ls [])) :
    Met l y (wW y cc mL rt) rm (va_Pc vs (fun U => wd G I ad M U.heap ∧ wK G U)) Qc 0 0 (fA I ad) := by
  refine Met.ofW (cc := cc) (maxL := mL) (ret := rt) hy rfl ?_
  intro p e s m args below meth c s₁ B hml hv
  obtain ⟨rfl, hP, hK⟩ := hv
  have hts := atoms_spec (ws := wW y cc mL rt) B.pre
  rw [lg_entry_eq]
  exact body p e s m below meth c ⟨B.exec, B.bytes, hml, findClass_of_methodNamed B.named, wW_wg hts, B.returns, B.notSynchronized, hK⟩ hP va_S.rf _ (lv_entry vs hlen)
