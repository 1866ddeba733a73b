section RL
variable {p : Program} {l : Launch} {e : Env} {R : Room} {s : State} {m : MethodId} {args : Array Value} {below : List Frame} {meth : Method} {c : Code} {H : Heap} {locs : List Loc} {cells slots : Nat} {Q : State → Prop}
variable {cc : ByteArray} {pc nL index : Nat} {ls : Array Slot} {rest : List Value} {rt : Option FieldType} {own : String} {G : GG} {I : ix → Prop} {ad : ix → Nat} {M : Mem} {i : ix}
theorem r_lVI {y : MethodName} {by_ : ByteArray} {mL n : Nat} {rv : Option FieldType} {rm : Room} {As : List Value} {Cn : String} {Qp : Int32 → Mem → Prop} {st0 : List Value} {ci N : Nat} {T : u_T} {fs : List Value} (C : cx p s m args meth c cc nL rt own G) (hls : ls.size = nL) (hP : wd G I ad M H) {A : Nat → Prop} (hS : va_S A s.heap H locs) (hsub : ∀ q, fA I ad q → A q)
    (hM : Met l y (wW y by_ mL rv) rm (va_Pc (.ref (ad i) :: As) (fun U => wd G I ad M U.heap ∧ wK G U)) (qI G I ad Qp) 0 0 (fA I ad)) (hi : I i) (he : pic G ad M i = .inr (ci, fs)) (hc : vwCl[ci]? = some (Cn, T, N))
    (hl : Cond.methodLink own index y ∈ WG) (h1 : Cond.instanceMethod y ∈ WG) (h2 : Cond.selects Cn y y ∈ WG) (h3 : Cond.initialized y.cls ∈ WG) (h4 : Cond.code y by_ mL rv ∈ WG) (hrm : rm.cells = 0 ∧ rm.slots = 0)
    (hd : y.cls ≠ "java/lang/invoke/MethodHandle" ∧ y.cls ≠ "java/lang/invoke/VarHandle" ∧ (parseMethodDescriptor y.desc).map (fun d => d.parameters.length) = some n) (hn : As.length = n) (hst : st0 = As.reverse ++ .ref (ad i) :: rest) (hR : rm.frames + 1 ≤ R.frames ∧ 8 + (mL + 11) + rm.locals ≤ R.locals) (hrest : (rest.map fun v => v.category).sum ≤ 8) (hcs : cells ≤ R.cells ∧ slots ≤ R.slots) (hdg : decode cc pc = .ok (.invokevirtual index, 3))
    (kk : ∀ (r : Int32) (M1 : Mem) (H1 : Heap) (locs1 : List Loc), Qp r M1 → wd G I ad M1 H1 → va_S A s.heap H1 locs1 → W p l e R s m args below meth c H1 locs1 cells slots Q (F0 m (pc + 3) ls (.int r :: rest))) : W p l e R s m args below meth c H locs cells slots Q (F0 m pc ls st0) := by
  obtain ⟨hx, hb, hml, hown, hts, -, -, hK⟩ := C
  have hP1 := hP.one hi
  rw [he] at hP1
  have hcw : CallW R s args own Cn index y by_ mL rv (wW y by_ mL rv) rm 0 0 n := ⟨callB_of n (Ts := WG) hts (fun w hw => (List.mem_cons.mp hw).elim (fun e => by subst e; exact ⟨h4, wg_good h4⟩) (fun hw => ⟨hw, wg_good hw⟩)) rfl hrm.1 hrm.2 (hts _ h3) (hts _ hl) hd hR, hts _ h1, hts _ h2⟩
  refine va_calli (mc := 0) (ms := 0) (va_runV (As := As) (rest := rest) ⟨hx, hb, hml, hown, hts⟩ hM hcw ⟨wK.blind, va_recv hK.1 hP1 (q0 := 0) hc rfl, fun U hU hW => ⟨rfl, by rw [hU]; exact hP, hK.warm hW⟩⟩ rfl hn hls hst (lv_room hrest) hdg hcs) hS (fun q _ h => hsub q h) hsub (fun r u t H1 locs1 ht hvm hw hB hz1 hk1 hS1 => ?_)
  exact kk r u H1 locs1 hw (by rw [← ht]; exact hB) hS1
theorem r_lVV {y : MethodName} {by_ : ByteArray} {mL n : Nat} {rv : Option FieldType} {rm : Room} {As : List Value} {Cn : String} {Qp : Mem → Prop} {st0 : List Value} {ci N : Nat} {T : u_T} {fs : List Value} (C : cx p s m args meth c cc nL rt own G) (hls : ls.size = nL) (hP : wd G I ad M H) {A : Nat → Prop} (hS : va_S A s.heap H locs) (hsub : ∀ q, fA I ad q → A q)
    (hM : Met l y (wW y by_ mL rv) rm (va_Pc (.ref (ad i) :: As) (fun U => wd G I ad M U.heap ∧ wK G U)) (qV G I ad Qp) 0 0 (fA I ad)) (hi : I i) (he : pic G ad M i = .inr (ci, fs)) (hc : vwCl[ci]? = some (Cn, T, N))
    (hl : Cond.methodLink own index y ∈ WG) (h1 : Cond.instanceMethod y ∈ WG) (h2 : Cond.selects Cn y y ∈ WG) (h3 : Cond.initialized y.cls ∈ WG) (h4 : Cond.code y by_ mL rv ∈ WG) (hrm : rm.cells = 0 ∧ rm.slots = 0)
    (hd : y.cls ≠ "java/lang/invoke/MethodHandle" ∧ y.cls ≠ "java/lang/invoke/VarHandle" ∧ (parseMethodDescriptor y.desc).map (fun d => d.parameters.length) = some n) (hn : As.length = n) (hst : st0 = As.reverse ++ .ref (ad i) :: rest) (hR : rm.frames + 1 ≤ R.frames ∧ 8 + (mL + 11) + rm.locals ≤ R.locals) (hrest : (rest.map fun v => v.category).sum ≤ 8) (hcs : cells ≤ R.cells ∧ slots ≤ R.slots) (hdg : decode cc pc = .ok (.invokevirtual index, 3))
    (kk : ∀ (M1 : Mem) (H1 : Heap) (locs1 : List Loc), Qp M1 → wd G I ad M1 H1 → va_S A s.heap H1 locs1 → W p l e R s m args below meth c H1 locs1 cells slots Q (F0 m (pc + 3) ls rest)) : W p l e R s m args below meth c H locs cells slots Q (F0 m pc ls st0) := by
  obtain ⟨hx, hb, hml, hown, hts, -, -, hK⟩ := C
  have hP1 := hP.one hi
  rw [he] at hP1
  have hcw : CallW R s args own Cn index y by_ mL rv (wW y by_ mL rv) rm 0 0 n := ⟨callB_of n (Ts := WG) hts (fun w hw => (List.mem_cons.mp hw).elim (fun e => by subst e; exact ⟨h4, wg_good h4⟩) (fun hw => ⟨hw, wg_good hw⟩)) rfl hrm.1 hrm.2 (hts _ h3) (hts _ hl) hd hR, hts _ h1, hts _ h2⟩
  refine va_callv (mc := 0) (ms := 0) (va_runV (As := As) (rest := rest) ⟨hx, hb, hml, hown, hts⟩ hM hcw ⟨wK.blind, va_recv hK.1 hP1 (q0 := 0) hc rfl, fun U hU hW => ⟨rfl, by rw [hU]; exact hP, hK.warm hW⟩⟩ rfl hn hls hst (lv_room hrest) hdg hcs) hS (fun q _ h => hsub q h) hsub (fun u t H1 locs1 ht hvm hw hB hz1 hk1 hS1 => ?_)
  exact kk u H1 locs1 hw (by rw [← ht]; exact hB) hS1
end RL
abbrev imA (f : Nat → Int32) (ad : ix → Nat) (sz : Nat) : Nat → Prop := fun q => fA (lvs f) ad q ∨ sz ≤ q
/-- image(n): with no image there a new store comes -/
def w_X8_image (n : Int32) (Q : Int32 → Mem → Prop) (M : Mem) : Prop := w_X8_isImage n (fun r M1 => M1 = M ∧ (if r = 0 then Q (-2) M else (vp_in n 2 ∧ (if M.1 (10, 0, 0, 0) n.toNatClampNeg = 0 then w_X5_copyFrom (n.toNatClampNeg + 1) 0 (fun M2 => M2.1 (10, 0, 0, 0) = upd (M.1 (10, 0, 0, 0)) n.toNatClampNeg 1 ∧ Q 1 M2) (mr (jM (jT (n.toNatClampNeg + 1)) M) (10, 0, 0, 0) (upd (M.1 (10, 0, 0, 0)) n.toNatClampNeg 1)) else w_X5_copyFrom (n.toNatClampNeg + 1) 0 (fun M2 => M2.1 (10, 0, 0, 0) = M.1 (10, 0, 0, 0) ∧ Q 1 M2) M)))) M
abbrev imQ (G : GG) (f : Nat → Int32) (ad : ix → Nat) (sz : Nat) (Q : Int32 → Mem → Prop) : Array Value → State → Outcome → State → Prop := va_Qi (fun r (u : Mem × (ix → Nat)) => Q r u.1) (fun (u : Mem × (ix → Nat)) (t : State) => (∀ j, lvs f j → u.2 j = ad j) ∧ (∀ j, lvs (u.1.1 (10, 0, 0, 0)) j → ¬ lvs f j → sz ≤ u.2 j) ∧ wd G (lvs (u.1.1 (10, 0, 0, 0))) u.2 u.1 t.heap) (imA f ad sz)
abbrev rm_X8_image : Room := { frames := 4, cells := 158, slots := 745, locals := 91 }
theorem hd_X8_image : yX8_image.cls ≠ "java/lang/invoke/MethodHandle" ∧ yX8_image.cls ≠ "java/lang/invoke/VarHandle" ∧ (parseMethodDescriptor yX8_image.desc).map (fun d => d.parameters.length) = some 1 := ⟨by decide +kernel, by decide +kernel, by decide +kernel⟩
theorem va_S.mono {A B : Nat → Prop} {H0 H : Heap} {locs : List Loc} (h : va_S A H0 H locs) (hAB : ∀ q, A q → B q) : va_S B H0 H locs := ⟨h.1, fun q h1 h2 => h.2.1 q h1 (fun h3 => h2 (hAB q h3)), fun l hl => hAB _ (h.2.2 l hl)⟩
theorem lvs_fresh {f : Nat → Int32} {k : Nat} (hk : k < 2) (h : f k = 0) : ∀ i, lvs f i → ¬ jT (k + 1) i := by
  intro i hi hj
  have h1 := jT_r hj
  obtain ⟨s2, hs, h2⟩ := lvs_low hi h1.1 h1.2.1
  have h3 := jT_r h2
  have e : s2 = k + 1 := by omega
  subst e
  rcases hs with hs | ⟨hs, h0⟩ | ⟨hs, h0⟩
  · omega
  · have : k = 0 := by omega
    subst this
    exact h0 h
  · have : k = 1 := by omega
    subst this
    exact h0 h
theorem lvs_more {f : Nat → Int32} {k : Nat} (hk : k < 2) (h : f k = 0) : ∀ i, lvs (upd f k 1) i ↔ jU (jT (k + 1)) (lvs f) i := by
  intro i
  rcases (show k = 0 ∨ k = 1 by omega) with rfl | rfl
  · have e0 : upd f 0 1 0 = 1 := if_pos rfl
    have e1 : upd f 0 1 1 = f 1 := if_neg (by decide)
    unfold lvs jU
    rw [e0, e1, h]
    simp
    grind
  · have e0 : upd f 1 1 1 = 1 := if_pos rfl
    have e1 : upd f 1 1 0 = f 0 := if_neg (by decide)
    unfold lvs jU
    rw [e0, e1, h]
    simp
    grind
section IM
variable {p : Program} {l : Launch} {e : Env} {s : State} {m : MethodId} {args : Array Value} {below : List Frame} {meth : Method} {c : Code} {G : GG} {ad : ix → Nat} {M : Mem} {f : Nat → Int32}
set_option maxHeartbeats 4000000 in
set_option maxRecDepth 100000 in
theorem j_X8_image_32 {n : Int32} {Q : Int32 → Mem → Prop} (C : cx p s m args meth c cX8_image 2 (some .int) RX8 G) (hn : vp_in n 2) {cells slots : Nat} (hc : cells ≤ 158) (hsl : slots ≤ 745) : ∀ (g : Nat → Int32) (ad2 : ix → Nat) (M2 : Mem) (H : Heap) (locs : List Loc) (ls : Array Slot), M2.1 (10, 0, 0, 0) = g → ¬ g n.toNatClampNeg = 0 → w_X5_copyFrom (n.toNatClampNeg + 1) 0 (fun M3 => M3.1 (10, 0, 0, 0) = g ∧ Q 1 M3) M2 → (∀ j, lvs f j → ad2 j = ad j) → (∀ j, lvs g j → ¬ lvs f j → s.heap.size ≤ ad2 j) → ad2 (0, 0, 0, 0) = ad (0, 0, 0, 0) → wd G (lvs g) ad2 M2 H → va_S (imA f ad s.heap.size) s.heap H locs → lv_has ls 2 [(0, .ref (ad (0, 0, 0, 0))), (1, .int n)] → W p l e rm_X8_image s m args below meth c H locs cells slots (MQ below (imQ G f ad s.heap.size Q) args s 158 745 (imA f ad s.heap.size)) (F0 m 32 ls []) := by
  have hx := C.1
  have hb := C.2.1
  intro g ad2 M2 H locs ls hg hgn hw hext hge h00 hP hS hl
  rw [← h00] at hl
  have hC := clo_lvs g
  have h0 : lvs g (0, 0, 0, 0) := lvs_0
  have hsub : ∀ q, fA (lvs g) ad2 q → imA f ad s.heap.size q := by
    rintro q ⟨i, hi, rfl⟩
    by_cases e : lvs f i
    · exact Or.inl ⟨i, e, (hext i e).symm⟩
    · exact Or.inr (hge i hi e)
  refine lv_aload_n (pc := 32) hx hb dX8_image_32 rfl (lv_at hl 0 rfl) ?_
  refine gf_295 (pc := 33) C hP h0 dX8_image_33 ?_
  refine lv_iload_n (pc := 36) hx hb dX8_image_36 rfl (lv_at hl 1 rfl) ?_
  refine r_aald10 (pc := 37) C hP (cl_0_1 hC h0) hn dX8_image_37 ?_
  rw [hg, if_neg hgn]
  show W p l e rm_X8_image s m args below meth c _ _ _ _ _ (F0 m 38 _ (.ref (ad2 (1, n.toNatClampNeg + 1, 0, 0)) :: _))
  refine lv_aload_n (pc := 38) hx hb dX8_image_38 rfl (lv_at hl 0 rfl) ?_
  refine gf_294 (pc := 39) C hP h0 dX8_image_39 ?_
  have hi1 := lvs_img (f := g) n.toNatClampNeg (in_lt hn) hgn
  refine r_lVV (pc := 42) (rest := []) (As := [.ref (ad2 (1, 0, 0, 0))]) C hl.1 hP hS hsub (k_X5_copyFrom l G hC hi1 (cl_0_0 hC h0) hw) hi1 rfl rfl mw_681 mw_682 mw_683 mw_57 mw_684 ⟨rfl, rfl⟩ hd_X5_copyFrom rfl rfl ⟨Nat.le_of_ble_eq_true rfl, Nat.le_of_ble_eq_true rfl⟩ (Nat.le_of_ble_eq_true rfl) ⟨hc, hsl⟩ dX8_image_42 (fun M3 H locs hw hP hS => ?_)
  refine lv_iconst (pc := 45) (v := (1 : Int32)) hx hb dX8_image_45 (by decide) ?_
  obtain ⟨hw1, hw2⟩ := hw
  obtain ⟨-, -, -, -, -, hr, hlocks, -⟩ := C
  refine W.widen hc hsl ?_
  refine W.iret hx hb hr (fun t ht _ => ⟨⟨1, (M3, ad2), rfl, hw2, hext, ?_, ?_⟩, hS.F ht⟩) hS.2.2 dX8_image_46 hlocks
  · show ∀ j, lvs (M3.1 (10, 0, 0, 0)) j → ¬ lvs f j → _
    rw [hw1]
    exact hge
  · show wd G (lvs (M3.1 (10, 0, 0, 0))) ad2 M3 t.heap
    rw [hw1, ht]
    exact hP
end IM
set_option maxHeartbeats 4000000 in
set_option maxRecDepth 100000 in
theorem k_X8_image (l : Launch) (G : GG) {ad : ix → Nat} {M : Mem} {f : Nat → Int32} (hf : M.1 (10, 0, 0, 0) = f) {n : Int32} {sz : Nat} {Q : Int32 → Mem → Prop} (hw : w_X8_image n Q M) : Met l yX8_image (wW yX8_image cX8_image 2 (some .int)) rm_X8_image (va_Pc [.ref (ad (0, 0, 0, 0)), .int n] (fun U => wd G (lvs f) ad M U.heap ∧ wK G U ∧ aK U ∧ U.heap.size = sz)) (imQ G f ad sz Q) 158 745 (imA f ad sz) := by
  refine Met.ofW (cc := cX8_image) (maxL := 2) (ret := some .int) (by decide +kernel) rfl ?_
  intro p e s m args below meth c s₁ B hml hv
  obtain ⟨rfl, hP, hK, haK, hsz⟩ := hv
  subst hsz
  have hts := atoms_spec (ws := wW yX8_image cX8_image 2 (some .int)) B.pre
  have C : cx p s m ([.ref (ad (0, 0, 0, 0)), .int n] : List Value).toArray meth c cX8_image 2 (some .int) RX8 G := ⟨B.exec, B.bytes, hml, findClass_of_methodNamed B.named, wW_wg hts, B.returns, B.notSynchronized, hK⟩
  rw [lg_entry_eq]
  have hl := lv_entry ([.ref (ad (0, 0, 0, 0)), .int n]) (n := 2) (Nat.le_of_ble_eq_true rfl)
  generalize (lg_sl ([.ref (ad (0, 0, 0, 0)), .int n]) ++ List.replicate (2 - (lg_sl ([.ref (ad (0, 0, 0, 0)), .int n])).length) Slot.unset).toArray = ls at hl ⊢
  have hl : lv_has ls 2 [(0, .ref (ad (0, 0, 0, 0))), (1, .int n)] := hl
  show W p l e rm_X8_image s m ([.ref (ad (0, 0, 0, 0)), .int n] : List Value).toArray below meth c s.heap [] 0 0 _ _
  have hx := C.1
  have hb := C.2.1
  have hC := clo_lvs f
  have h0 : lvs f (0, 0, 0, 0) := lvs_0
  have hS : va_S (fA (lvs f) ad) s.heap s.heap [] := va_S.rf
  refine lv_iload_n (pc := 0) hx hb dX8_image_0 rfl (lv_at hl 1 rfl) ?_
  refine r_cSI (pc := 1) (rest := []) (As := [.int n]) C hl.1 hP hS (k_X8_isImage l G hC hw) mw_678 mw_679 mw_56 mw_680 ⟨rfl, rfl⟩ hd_X8_isImage rfl rfl ⟨Nat.le_of_ble_eq_true rfl, Nat.le_of_ble_eq_true rfl⟩ (Nat.le_of_ble_eq_true rfl) ⟨Nat.zero_le _, Nat.zero_le _⟩ dX8_image_1 (fun r M1 H locs hw hPn hS => ?_)
  obtain ⟨rfl, hw⟩ := hw
  have hP := hPn
  replace hS : va_S (imA f ad s.heap.size) s.heap H locs := hS.mono (fun q h => Or.inl h)
  refine lv_if_ne (pc := 4) (tgt := 10) hx hb dX8_image_4 (by decide) (fun h => ?_) (fun h => ?_)
  · replace hw := if_f h hw
    obtain ⟨hn, hw⟩ := hw
    refine lv_aload_n (pc := 10) hx hb dX8_image_10 rfl (lv_at hl 0 rfl) ?_
    refine gf_295 (pc := 11) C hP h0 dX8_image_11 ?_
    refine lv_iload_n (pc := 14) hx hb dX8_image_14 rfl (lv_at hl 1 rfl) ?_
    refine r_aald10 (pc := 15) C hP (cl_0_1 hC h0) hn dX8_image_15 ?_
    by_cases h10 : M1.1 (10, 0, 0, 0) n.toNatClampNeg = 0
    · replace hw := if_t h10 hw
      rw [if_pos h10]
      refine lv_ifnonnullN (pc := 16) hx hb dX8_image_16 ?_
      refine lv_aload_n (pc := 19) hx hb dX8_image_19 rfl (lv_at hl 0 rfl) ?_
      refine gf_295 (pc := 20) C hP h0 dX8_image_20 ?_
      refine lv_iload_n (pc := 23) hx hb dX8_image_23 rfl (lv_at hl 1 rfl) ?_
      have hk2 := in_lt hn
      rw [hf] at h10
      have hfr := lvs_fresh hk2 h10
      have hP2 := w2_of_wd hP hf
      refine nw_X8_9 (pc := 24) (s0 := n.toNatClampNeg + 1) (A := imA f ad s.heap.size) C hP2 hS (fun h => hfr _ h (Or.inl rfl)) (Nat.le_of_ble_eq_true rfl) (Nat.le_of_ble_eq_true rfl) dX8_image_24 (fun q ad1 H e1 hx1 hz1 hP2 hS => ?_)
      refine lv_dup (pc := 27) hx hb dX8_image_27 rfl ?_
      refine r2_cI (pc := 28) (rest := [.ref q, .int n, .ref (ad (10, 0, 0, 0))]) (As := []) C haK hl.1 hP2 hS (fun q h => Or.inr h) (Or.inr hz1) (kI_X5 l G e1 (Or.inl rfl) (mr_at _ _ _) (if_pos rfl) (fun i hi hJ => hi.elim id (fun h => absurd hJ (hfr i h)))) mw_78 mw_79 mw_57 mw_80 ⟨rfl, rfl⟩ rfl hd_X5_init rfl rfl ⟨Nat.le_of_ble_eq_true rfl, Nat.le_of_ble_eq_true rfl⟩ (Nat.le_of_ble_eq_true rfl) ⟨Nat.le_of_ble_eq_true rfl, Nat.le_of_ble_eq_true rfl⟩ dX8_image_28 (fun ad2 H locs hx2 hnn hP2 hS => ?_)
      replace hP2 := hP2.root (Or.inl rfl)
      have hext : ∀ j, lvs f j → ad2 j = ad j := fun j hj => (hx2 j (Or.inr hj)).trans (hx1 j hj)
      refine r2_aast (pc := 31) (i := (10, 0, 0, 0)) (j := (1, n.toNatClampNeg + 1, 0, 0)) (n := 2) (t0 := 4) (ci := 5) (A := imA f ad s.heap.size) C hP2 hS (Or.inr lvs_10) (Or.inl (Or.inl rfl)) (by rw [hext _ lvs_10]; exact Or.inl ⟨_, lvs_10, rfl⟩) (fun _ => rfl) rfl rfl rfl hn (k := n.toNatClampNeg) rfl (hext _ lvs_10) ((hx2 _ (Or.inl rfl)).trans e1) dX8_image_31 (fun H locs hP2 hS => ?_)
      have hne : ∀ i, jT (n.toNatClampNeg + 1) i → i ≠ (10, 0, 0, 0) := fun i hi e => by rw [e] at hi; have := jT_r hi; dsimp only at this; omega
      have hPd : wd G (lvs (upd f n.toNatClampNeg 1)) ad2 (mr (jM (jT (n.toNatClampNeg + 1)) M1) (10, 0, 0, 0) (upd f n.toNatClampNeg 1)) H := by
        refine wd_of_w2 (hP2.congr (lvs_more hk2 h10) (fun _ _ => rfl) rfl (fun _ _ => rfl)) _ (fun i hi e => mr_ne _ _ e) rfl (mr_at _ _ _) (fun i hi e => ?_) (fun j hj => ?_)
        · rw [fu_ne e]
          by_cases hJ : jT (n.toNatClampNeg + 1) i
          · exact jF_at hJ
          · rw [jF_ne hJ]
            exact if_neg e
        · show (if (10, 0, 0, 0) = (10, 0, 0, 0) then (fun q => if q = n.toNatClampNeg then some ((1, n.toNatClampNeg + 1, 0, 0) : ix) else jF (jT (n.toNatClampNeg + 1)) (FS f) (10, 0, 0, 0) q) else _) j = _
          rw [if_pos rfl]
          by_cases ej : j = n.toNatClampNeg
          · subst ej
            rw [if_pos rfl, upd_at, if_neg (by decide)]
          · rw [if_neg ej, upd_ne _ _ ej, jF_ne (fun h => hne _ h rfl)]
            show (if j < 2 ∧ f j ≠ 0 then _ else _) = _
            by_cases hz : f j = 0
            · simp [hz]
            · simp [hz, hj]
      rw [hf] at hw
      exact j_X8_image_32 C hn (Nat.le_of_ble_eq_true rfl) (Nat.le_of_ble_eq_true rfl) (upd f n.toNatClampNeg 1) ad2 _ H locs ls (mr_at _ _ _) (by rw [upd_at]; decide) hw hext (fun j hj hn2 => by
        rcases (lvs_more hk2 h10 j).mp hj with hJ | hJ
        · by_cases e9 : iI (lvs f) (1, n.toNatClampNeg + 1, 0, 0) j
          · rw [hx2 j e9]
            rcases e9 with e9 | e9
            · rw [e9, e1]; exact hz1
            · exact absurd e9 hn2
          · exact hnn j (Or.inl hJ) e9
        · exact absurd hJ hn2) (hext _ lvs_0) hPd hS hl
    · replace hw := if_f h10 hw
      rw [if_neg h10]
      refine lv_ifnonnull (pc := 16) (tgt := 32) hx hb dX8_image_16 (by decide) ?_
      rw [hf] at hw h10
      exact j_X8_image_32 C hn (Nat.le_of_ble_eq_true rfl) (Nat.le_of_ble_eq_true rfl) f ad M1 H locs ls hf h10 hw (fun _ _ => rfl) (fun j hj hn2 => absurd hj hn2) rfl hP hS hl
  · replace hw := if_t h hw
    refine lv_bipush (pc := 7) (v := (-2 : Int32)) hx hb dX8_image_7 (by decide) ?_
    obtain ⟨-, -, -, -, -, hr, hlocks, -⟩ := C
    refine W.widen (k := 158) (n := 745) (Nat.zero_le _) (Nat.zero_le _) ?_
    refine W.iret hx hb hr (fun t ht _ => ⟨⟨-2, (M1, ad), rfl, hw, fun _ _ => rfl, ?_, ?_⟩, hS.F ht⟩) hS.2.2 dX8_image_9 hlocks
    · show ∀ j, lvs (M1.1 (10, 0, 0, 0)) j → ¬ lvs f j → _
      rw [hf]
      exact fun j h1 h2 => absurd h1 h2
    · show wd G (lvs (M1.1 (10, 0, 0, 0))) ad M1 t.heap
      rw [hf, ht]
      exact hP
