
abbrev rm_X6_clear : Room := { frames := 0, cells := 0, slots := 0, locals := 0 }
theorem hd_X6_clear : yX6_clear.cls ≠ "java/lang/invoke/MethodHandle" ∧ yX6_clear.cls ≠ "java/lang/invoke/VarHandle" ∧ (parseMethodDescriptor yX6_clear.desc).map (fun d => d.parameters.length) = some 0 := ⟨by decide +kernel, by decide +kernel, by decide +kernel⟩
def w_X6_clear (s0 : Nat) (b0 : Nat) (c0 : Nat) (Q : Mem → Prop) (M : Mem) : Prop := (Q (mu (mu (mu (mu (mu M (7, s0, b0, c0) 0 (-2000000 : Int32)) (7, s0, b0, c0) 1 (-2000000 : Int32)) (7, s0, b0, c0) 2 (0 : Int32)) (7, s0, b0, c0) 3 (0 : Int32)) (7, s0, b0, c0) 4 (0 : Int32)))
section
variable {p : Program} {l : Launch} {e : Env} {s : State} {m : MethodId} {args : Array Value} {below : List Frame} {meth : Method} {c : Code} 
variable  {G : GG} {I : ix → Prop} {ad : ix → Nat}
set_option maxHeartbeats 4000000 in
set_option maxRecDepth 100000 in
theorem j_X6_clear_0 {s0 : Nat} {b0 : Nat} {c0 : Nat} (C : cx p s m args meth c cX6_clear 1 none RX6 G) (hC : clo I) (h0 : I (7, s0, b0, c0)) {Q : Mem → Prop} : ∀ (M : Mem) (H : Heap) (locs : List Loc) (ls : Array Slot), w_X6_clear s0 b0 c0 Q M → wd G I ad M H → va_S (fA I ad) s.heap H locs → lv_has ls 1 [(0, .ref (ad (7, s0, b0, c0)))] → W p l e rm_X6_clear s m args below meth c H locs 0 0 (MQ below (qV G I ad Q) args s 0 0 (fA I ad)) (F0 m 0 ls []) := by
  have hx := C.1
  have hb := C.2.1
  have hown := C.2.2.2.1
  have hts := C.2.2.2.2.1
  intro M H locs ls hw hP hS hl
  unfold w_X6_clear at hw
  refine lv_aload_n (pc := 0) hx hb dX6_clear_0 rfl (lv_at hl 0 rfl) ?_
  refine lv_ldc (pc := 1) (own := RX6) (v := (-2000000 : Int32)) hx hb hown (hts _ mw_102) dX6_clear_1 ?_
  refine pf_103 (pc := 3) C hP hS h0 dX6_clear_3 (fun H locs hP hS => ?_)
  refine lv_aload_n (pc := 6) hx hb dX6_clear_6 rfl (lv_at hl 0 rfl) ?_
  refine lv_ldc (pc := 7) (own := RX6) (v := (-2000000 : Int32)) hx hb hown (hts _ mw_102) dX6_clear_7 ?_
  refine pf_106 (pc := 9) C hP hS h0 dX6_clear_9 (fun H locs hP hS => ?_)
  refine lv_aload_n (pc := 12) hx hb dX6_clear_12 rfl (lv_at hl 0 rfl) ?_
  refine lv_iconst (pc := 13) (v := (0 : Int32)) hx hb dX6_clear_13 (by decide) ?_
  refine pf_109 (pc := 14) C hP hS h0 dX6_clear_14 (fun H locs hP hS => ?_)
  refine lv_aload_n (pc := 17) hx hb dX6_clear_17 rfl (lv_at hl 0 rfl) ?_
  refine lv_iconst (pc := 18) (v := (0 : Int32)) hx hb dX6_clear_18 (by decide) ?_
  refine pf_112 (pc := 19) C hP hS h0 dX6_clear_19 (fun H locs hP hS => ?_)
  refine lv_aload_n (pc := 22) hx hb dX6_clear_22 rfl (lv_at hl 0 rfl) ?_
  refine lv_iconst (pc := 23) (v := (0 : Int32)) hx hb dX6_clear_23 (by decide) ?_
  refine pf_114 (pc := 24) (by decide) C hP hS h0 dX6_clear_24 (fun H locs hP hS => ?_)
  exact r_vret (pc := 27) C hP hS hw dX6_clear_27
end
theorem k_X6_clear (l : Launch) (G : GG) {I : ix → Prop} {ad : ix → Nat} (hC : clo I) {s0 : Nat} {b0 : Nat} {c0 : Nat} (h0 : I (7, s0, b0, c0)) {Q : Mem → Prop} {M : Mem} (hw : w_X6_clear s0 b0 c0 Q M) : Met l yX6_clear (wW yX6_clear cX6_clear 1 none) rm_X6_clear (va_Pc [.ref (ad (7, s0, b0, c0))] (fun U => wd G I ad M U.heap ∧ wK G U)) (qV G I ad Q) 0 0 (fA I ad) := met_of (by decide +kernel) (Nat.le_of_ble_eq_true rfl) (fun p e s m below meth c C hP hS ls hl => j_X6_clear_0 C hC h0 _ _ _ _ hw hP hS hl)
abbrev rm_X6_placeOf : Room := { frames := 0, cells := 0, slots := 0, locals := 0 }
theorem hd_X6_placeOf : yX6_placeOf.cls ≠ "java/lang/invoke/MethodHandle" ∧ yX6_placeOf.cls ≠ "java/lang/invoke/VarHandle" ∧ (parseMethodDescriptor yX6_placeOf.desc).map (fun d => d.parameters.length) = some 1 := ⟨by decide +kernel, by decide +kernel, by decide +kernel⟩
def w_X6_placeOf_2 (s0 : Nat) (b0 : Nat) (c0 : Nat) (a1 : Int32) (Q : Int32 → Mem → Prop) : Nat → Int32 → Mem → Prop
  | 0, _, _ => False
  | n + 1, x2, M => (if (M.1 (7, s0, b0, c0) 3) ≤ x2 then (Q (-2000000 : Int32) M) else (vp_in x2 4 ∧ (if (M.1 (8, s0, b0, c0) x2.toNatClampNeg) = a1 then (Q x2 M) else ((w_X6_placeOf_2 s0 b0 c0 a1 Q n) (x2 + 1) M))))
def w_X6_placeOf (s0 : Nat) (b0 : Nat) (c0 : Nat) (a1 : Int32) (Q : Int32 → Mem → Prop) (M : Mem) : Prop := (∃ n : Nat, w_X6_placeOf_2 s0 b0 c0 a1 Q n (0 : Int32) M)
section
variable {p : Program} {l : Launch} {e : Env} {s : State} {m : MethodId} {args : Array Value} {below : List Frame} {meth : Method} {c : Code} 
variable  {G : GG} {I : ix → Prop} {ad : ix → Nat}
set_option maxHeartbeats 4000000 in
set_option maxRecDepth 100000 in
theorem j_X6_placeOf_2 {s0 : Nat} {b0 : Nat} {c0 : Nat} {a1 : Int32} (C : cx p s m args meth c cX6_placeOf 3 (some .int) RX6 G) (hC : clo I) (h0 : I (7, s0, b0, c0)) {Q : Int32 → Mem → Prop} : ∀ (n : Nat), ∀ (x2 : Int32) (M : Mem) (H : Heap) (locs : List Loc) (ls : Array Slot), w_X6_placeOf_2 s0 b0 c0 a1 Q n x2 M → wd G I ad M H → va_S (fA I ad) s.heap H locs → lv_has ls 3 [(0, .ref (ad (7, s0, b0, c0))), (1, .int a1), (2, .int x2)] → W p l e rm_X6_placeOf s m args below meth c H locs 0 0 (MQ below (qI G I ad Q) args s 0 0 (fA I ad)) (F0 m 2 ls []) := by
  have hx := C.1
  have hb := C.2.1
  have hown := C.2.2.2.1
  have hts := C.2.2.2.2.1
  intro n
  induction n with
  | zero =>
    intro x2 M H locs ls hw hP hS hl
    rw [w_X6_placeOf_2] at hw
    exact hw.elim
  | succ n ih =>
    intro x2 M H locs ls hw hP hS hl
    rw [w_X6_placeOf_2] at hw
    refine lv_iload_n (pc := 2) hx hb dX6_placeOf_2 rfl (lv_at hl 2 rfl) ?_
    refine lv_aload_n (pc := 3) hx hb dX6_placeOf_3 rfl (lv_at hl 0 rfl) ?_
    refine gf_112 (pc := 4) C hP h0 dX6_placeOf_4 ?_
    refine lv_icmp_ge (pc := 7) (tgt := 28) hx hb dX6_placeOf_7 (by decide) (fun h => ?_) (fun h => ?_)
    · replace hw := if_t h hw
      refine lv_ldc (pc := 28) (own := RX6) (v := (-2000000 : Int32)) hx hb hown (hts _ mw_102) dX6_placeOf_28 ?_
      exact r_iret (pc := 30) C hP hS hw dX6_placeOf_30
    · replace hw := if_f h hw
      refine lv_aload_n (pc := 10) hx hb dX6_placeOf_10 rfl (lv_at hl 0 rfl) ?_
      refine gf_116 (pc := 11) C hP h0 dX6_placeOf_11 ?_
      refine lv_iload_n (pc := 14) hx hb dX6_placeOf_14 rfl (lv_at hl 2 rfl) ?_
      refine r_ialdK (pc := 15) (n := 4) (k := x2.toNatClampNeg) C hP (cl_7_5 hC h0) (fun _ _ _ _ => rfl) hw.1 rfl dX6_placeOf_15 ?_
      replace hw := hw.2
      refine lv_iload_n (pc := 16) hx hb dX6_placeOf_16 rfl (lv_at hl 1 rfl) ?_
      refine lv_icmp_ne (pc := 17) (tgt := 22) hx hb dX6_placeOf_17 (by decide) (fun h => ?_) (fun h => ?_)
      · replace hw := if_f h hw
        refine lv_iinc (pc := 22) (v := x2 + 1) (lv' := [(2, .int (x2 + 1)), (0, .ref (ad (7, s0, b0, c0))), (1, .int a1)]) hx hb dX6_placeOf_22 hl (k := 2) rfl rfl (by decide) rfl (fun ls hl => ?_)
        refine lv_goto (pc := 25) (tgt := 2) hx hb dX6_placeOf_25 (by decide) ?_
        exact ih (x2 + 1) M _ _ _ hw hP hS (lv_sub hl [1, 2, 0] rfl)
      · replace hw := if_t h hw
        refine lv_iload_n (pc := 20) hx hb dX6_placeOf_20 rfl (lv_at hl 2 rfl) ?_
        exact r_iret (pc := 21) C hP hS hw dX6_placeOf_21
set_option maxHeartbeats 4000000 in
set_option maxRecDepth 100000 in
theorem j_X6_placeOf_0 {s0 : Nat} {b0 : Nat} {c0 : Nat} {a1 : Int32} (C : cx p s m args meth c cX6_placeOf 3 (some .int) RX6 G) (hC : clo I) (h0 : I (7, s0, b0, c0)) {Q : Int32 → Mem → Prop} : ∀ (M : Mem) (H : Heap) (locs : List Loc) (ls : Array Slot), w_X6_placeOf s0 b0 c0 a1 Q M → wd G I ad M H → va_S (fA I ad) s.heap H locs → lv_has ls 3 [(0, .ref (ad (7, s0, b0, c0))), (1, .int a1)] → W p l e rm_X6_placeOf s m args below meth c H locs 0 0 (MQ below (qI G I ad Q) args s 0 0 (fA I ad)) (F0 m 0 ls []) := by
  have hx := C.1
  have hb := C.2.1
  have hown := C.2.2.2.1
  have hts := C.2.2.2.2.1
  intro M H locs ls hw hP hS hl
  unfold w_X6_placeOf at hw
  refine lv_iconst (pc := 0) (v := (0 : Int32)) hx hb dX6_placeOf_0 (by decide) ?_
  refine lv_istore_n (pc := 1) (lv' := [(2, .int (0 : Int32)), (0, .ref (ad (7, s0, b0, c0))), (1, .int a1)]) hx hb dX6_placeOf_1 rfl hl (by decide) rfl (fun ls hl => ?_)
  obtain ⟨n0, hw⟩ := hw
  exact j_X6_placeOf_2 C hC h0 n0 (0 : Int32) M _ _ _ hw hP hS (lv_sub hl [1, 2, 0] rfl)
end
theorem k_X6_placeOf (l : Launch) (G : GG) {I : ix → Prop} {ad : ix → Nat} (hC : clo I) {s0 : Nat} {b0 : Nat} {c0 : Nat} {a1 : Int32} (h0 : I (7, s0, b0, c0)) {Q : Int32 → Mem → Prop} {M : Mem} (hw : w_X6_placeOf s0 b0 c0 a1 Q M) : Met l yX6_placeOf (wW yX6_placeOf cX6_placeOf 3 (some .int)) rm_X6_placeOf (va_Pc [.ref (ad (7, s0, b0, c0)), .int a1] (fun U => wd G I ad M U.heap ∧ wK G U)) (qI G I ad Q) 0 0 (fA I ad) := met_of (by decide +kernel) (Nat.le_of_ble_eq_true rfl) (fun p e s m below meth c C hP hS ls hl => j_X6_placeOf_0 C hC h0 _ _ _ _ hw hP hS hl)
abbrev rm_X6_enlist : Room := { frames := 1, cells := 0, slots := 0, locals := 22 }
theorem hd_X6_enlist : yX6_enlist.cls ≠ "java/lang/invoke/MethodHandle" ∧ yX6_enlist.cls ≠ "java/lang/invoke/VarHandle" ∧ (parseMethodDescriptor yX6_enlist.desc).map (fun d => d.parameters.length) = some 1 := ⟨by decide +kernel, by decide +kernel, by decide +kernel⟩
def w_X6_enlist (s0 : Nat) (b0 : Nat) (c0 : Nat) (a1 : Int32) (Q : Mem → Prop) (M : Mem) : Prop := (w_X6_placeOf s0 b0 c0 a1  (fun (r2 : Int32) (M2 : Mem) => (if r2 = (-2000000 : Int32) then (if (4 : Int32) ≤ (M2.1 (7, s0, b0, c0) 3) then (Q (mu (mu M2 (7, s0, b0, c0) 4 (1 : Int32)) (7, s0, b0, c0) 3 (0 : Int32))) else (vp_in (M2.1 (7, s0, b0, c0) 3) 4 ∧ (vp_in ((mu M2 (8, s0, b0, c0) ((M2.1 (7, s0, b0, c0) 3).toNatClampNeg) a1).1 (7, s0, b0, c0) 3) 4 ∧ (Q (mu (mu (mu M2 (8, s0, b0, c0) ((M2.1 (7, s0, b0, c0) 3).toNatClampNeg) a1) (9, s0, b0, c0) (((mu M2 (8, s0, b0, c0) ((M2.1 (7, s0, b0, c0) 3).toNatClampNeg) a1).1 (7, s0, b0, c0) 3).toNatClampNeg) (1 : Int32)) (7, s0, b0, c0) 3 (((mu (mu M2 (8, s0, b0, c0) ((M2.1 (7, s0, b0, c0) 3).toNatClampNeg) a1) (9, s0, b0, c0) (((mu M2 (8, s0, b0, c0) ((M2.1 (7, s0, b0, c0) 3).toNatClampNeg) a1).1 (7, s0, b0, c0) 3).toNatClampNeg) (1 : Int32)).1 (7, s0, b0, c0) 3) + (1 : Int32))))))) else (vp_in r2 4 ∧ (vp_in r2 4 ∧ (Q (mu M2 (9, s0, b0, c0) (r2.toNatClampNeg) ((M2.1 (9, s0, b0, c0) r2.toNatClampNeg) + (1 : Int32)))))))) M)
section
variable {p : Program} {l : Launch} {e : Env} {s : State} {m : MethodId} {args : Array Value} {below : List Frame} {meth : Method} {c : Code} 
variable  {G : GG} {I : ix → Prop} {ad : ix → Nat}
set_option maxHeartbeats 4000000 in
set_option maxRecDepth 100000 in
theorem j_X6_enlist_0 {s0 : Nat} {b0 : Nat} {c0 : Nat} {a1 : Int32} (C : cx p s m args meth c cX6_enlist 3 none RX6 G) (hC : clo I) (h0 : I (7, s0, b0, c0)) {Q : Mem → Prop} : ∀ (M : Mem) (H : Heap) (locs : List Loc) (ls : Array Slot), w_X6_enlist s0 b0 c0 a1 Q M → wd G I ad M H → va_S (fA I ad) s.heap H locs → lv_has ls 3 [(0, .ref (ad (7, s0, b0, c0))), (1, .int a1)] → W p l e rm_X6_enlist s m args below meth c H locs 0 0 (MQ below (qV G I ad Q) args s 0 0 (fA I ad)) (F0 m 0 ls []) := by
  have hx := C.1
  have hb := C.2.1
  have hown := C.2.2.2.1
  have hts := C.2.2.2.2.1
  intro M H locs ls hw hP hS hl
  unfold w_X6_enlist at hw
  refine lv_aload_n (pc := 0) hx hb dX6_enlist_0 rfl (lv_at hl 0 rfl) ?_
  refine lv_iload_n (pc := 1) hx hb dX6_enlist_1 rfl (lv_at hl 1 rfl) ?_
  refine r_cVI (pc := 2) (rest := []) (As := [.int a1]) C hl.1 hP hS (k_X6_placeOf l G hC h0 hw) h0 rfl rfl mw_350 mw_352 mw_2 mw_59 mw_353 ⟨rfl, rfl⟩ hd_X6_placeOf rfl rfl ⟨Nat.le_of_ble_eq_true rfl, Nat.le_of_ble_eq_true rfl⟩ (Nat.le_of_ble_eq_true rfl) ⟨Nat.zero_le _, Nat.zero_le _⟩ dX6_enlist_2 (fun r2 M2 H locs hw hP hS => ?_)
  refine lv_istore_n (pc := 5) (lv' := [(2, .int r2), (0, .ref (ad (7, s0, b0, c0))), (1, .int a1)]) hx hb dX6_enlist_5 rfl hl (by decide) rfl (fun ls hl => ?_)
  refine lv_iload_n (pc := 6) hx hb dX6_enlist_6 rfl (lv_at hl 0 rfl) ?_
  refine lv_ldc (pc := 7) (own := RX6) (v := (-2000000 : Int32)) hx hb hown (hts _ mw_102) dX6_enlist_7 ?_
  refine lv_icmp_eq (pc := 9) (tgt := 25) hx hb dX6_enlist_9 (by decide) (fun h => ?_) (fun h => ?_)
  · replace hw := if_t h hw
    refine lv_aload_n (pc := 25) hx hb dX6_enlist_25 rfl (lv_at hl 1 rfl) ?_
    refine gf_112 (pc := 26) C hP h0 dX6_enlist_26 ?_
    refine lv_iconst (pc := 29) (v := (4 : Int32)) hx hb dX6_enlist_29 (by decide) ?_
    refine lv_icmp_ge (pc := 30) (tgt := 66) hx hb dX6_enlist_30 (by decide) (fun h => ?_) (fun h => ?_)
    · replace hw := if_t h hw
      refine lv_aload_n (pc := 66) hx hb dX6_enlist_66 rfl (lv_at hl 1 rfl) ?_
      refine lv_iconst (pc := 67) (v := (1 : Int32)) hx hb dX6_enlist_67 (by decide) ?_
      refine pf_114 (pc := 68) (by decide) C hP hS h0 dX6_enlist_68 (fun H locs hP hS => ?_)
      refine lv_aload_n (pc := 71) hx hb dX6_enlist_71 rfl (lv_at hl 1 rfl) ?_
      refine lv_iconst (pc := 72) (v := (0 : Int32)) hx hb dX6_enlist_72 (by decide) ?_
      refine pf_112 (pc := 73) C hP hS h0 dX6_enlist_73 (fun H locs hP hS => ?_)
      exact r_vret (pc := 76) C hP hS hw dX6_enlist_76
    · replace hw := if_f h hw
      refine lv_aload_n (pc := 33) hx hb dX6_enlist_33 rfl (lv_at hl 1 rfl) ?_
      refine gf_116 (pc := 34) C hP h0 dX6_enlist_34 ?_
      refine lv_aload_n (pc := 37) hx hb dX6_enlist_37 rfl (lv_at hl 1 rfl) ?_
      refine gf_112 (pc := 38) C hP h0 dX6_enlist_38 ?_
      refine lv_iload_n (pc := 41) hx hb dX6_enlist_41 rfl (lv_at hl 2 rfl) ?_
      refine r_iastK (pc := 42) (n := 4) (k := (M2.1 (7, s0, b0, c0) 3).toNatClampNeg) C hP hS (cl_7_5 hC h0) (fun _ _ _ _ => rfl) hw.1 rfl dX6_enlist_42 (fun H locs hP hS => ?_)
      replace hw := hw.2
      refine lv_aload_n (pc := 43) hx hb dX6_enlist_43 rfl (lv_at hl 1 rfl) ?_
      refine gf_118 (pc := 44) C hP h0 dX6_enlist_44 ?_
      refine lv_aload_n (pc := 47) hx hb dX6_enlist_47 rfl (lv_at hl 1 rfl) ?_
      refine gf_112 (pc := 48) C hP h0 dX6_enlist_48 ?_
      refine lv_iconst (pc := 51) (v := (1 : Int32)) hx hb dX6_enlist_51 (by decide) ?_
      refine r_iastK (pc := 52) (n := 4) (k := ((mu M2 (8, s0, b0, c0) ((M2.1 (7, s0, b0, c0) 3).toNatClampNeg) a1).1 (7, s0, b0, c0) 3).toNatClampNeg) C hP hS (cl_7_6 hC h0) (fun _ _ _ _ => rfl) hw.1 rfl dX6_enlist_52 (fun H locs hP hS => ?_)
      replace hw := hw.2
      refine lv_aload_n (pc := 53) hx hb dX6_enlist_53 rfl (lv_at hl 1 rfl) ?_
      refine lv_dup (pc := 54) hx hb dX6_enlist_54 rfl ?_
      refine gf_112 (pc := 55) C hP h0 dX6_enlist_55 ?_
      refine lv_iconst (pc := 58) (v := (1 : Int32)) hx hb dX6_enlist_58 (by decide) ?_
      refine lv_iadd (pc := 59) hx hb dX6_enlist_59 ?_
      refine pf_112 (pc := 60) C hP hS h0 dX6_enlist_60 (fun H locs hP hS => ?_)
      refine lv_goto (pc := 63) (tgt := 76) hx hb dX6_enlist_63 (by decide) ?_
      exact r_vret (pc := 76) C hP hS hw dX6_enlist_76
  · replace hw := if_f h hw
    refine lv_aload_n (pc := 12) hx hb dX6_enlist_12 rfl (lv_at hl 1 rfl) ?_
    refine gf_118 (pc := 13) C hP h0 dX6_enlist_13 ?_
    refine lv_iload_n (pc := 16) hx hb dX6_enlist_16 rfl (lv_at hl 0 rfl) ?_
    refine lv_dup2_11 (pc := 17) hx hb dX6_enlist_17 rfl rfl ?_
    refine r_ialdK (pc := 18) (n := 4) (k := r2.toNatClampNeg) C hP (cl_7_6 hC h0) (fun _ _ _ _ => rfl) hw.1 rfl dX6_enlist_18 ?_
    replace hw := hw.2
    refine lv_iconst (pc := 19) (v := (1 : Int32)) hx hb dX6_enlist_19 (by decide) ?_
    refine lv_iadd (pc := 20) hx hb dX6_enlist_20 ?_
    refine r_iastK (pc := 21) (n := 4) (k := r2.toNatClampNeg) C hP hS (cl_7_6 hC h0) (fun _ _ _ _ => rfl) hw.1 rfl dX6_enlist_21 (fun H locs hP hS => ?_)
    replace hw := hw.2
    refine lv_goto (pc := 22) (tgt := 76) hx hb dX6_enlist_22 (by decide) ?_
    exact r_vret (pc := 76) C hP hS hw dX6_enlist_76
end
theorem k_X6_enlist (l : Launch) (G : GG) {I : ix → Prop} {ad : ix → Nat} (hC : clo I) {s0 : Nat} {b0 : Nat} {c0 : Nat} {a1 : Int32} (h0 : I (7, s0, b0, c0)) {Q : Mem → Prop} {M : Mem} (hw : w_X6_enlist s0 b0 c0 a1 Q M) : Met l yX6_enlist (wW yX6_enlist cX6_enlist 3 none) rm_X6_enlist (va_Pc [.ref (ad (7, s0, b0, c0)), .int a1] (fun U => wd G I ad M U.heap ∧ wK G U)) (qV G I ad Q) 0 0 (fA I ad) := met_of (by decide +kernel) (Nat.le_of_ble_eq_true rfl) (fun p e s m below meth c C hP hS ls hl => j_X6_enlist_0 C hC h0 _ _ _ _ hw hP hS hl)
abbrev rm_X6_come : Room := { frames := 2, cells := 0, slots := 0, locals := 44 }
theorem hd_X6_come : yX6_come.cls ≠ "java/lang/invoke/MethodHandle" ∧ yX6_come.cls ≠ "java/lang/invoke/VarHandle" ∧ (parseMethodDescriptor yX6_come.desc).map (fun d => d.parameters.length) = some 1 := ⟨by decide +kernel, by decide +kernel, by decide +kernel⟩
def w_X6_come (s0 : Nat) (b0 : Nat) (c0 : Nat) (a1 : Int32) (Q : Mem → Prop) (M : Mem) : Prop := (if a1 = (1000 : Int32) then (Q (mu M (7, s0, b0, c0) 2 ((M.1 (7, s0, b0, c0) 2) + (1 : Int32)))) else (if (M.1 (7, s0, b0, c0) 0) = (-2000000 : Int32) then (if ((mu M (7, s0, b0, c0) 0 a1).1 (7, s0, b0, c0) 1) = (-2000000 : Int32) then (if ((mu (mu M (7, s0, b0, c0) 0 a1) (7, s0, b0, c0) 1 a1).1 (7, s0, b0, c0) 4) = 0 then (w_X6_enlist s0 b0 c0 a1  (fun (M77 : Mem) => (Q M77)) (mu (mu M (7, s0, b0, c0) 0 a1) (7, s0, b0, c0) 1 a1)) else (Q (mu (mu M (7, s0, b0, c0) 0 a1) (7, s0, b0, c0) 1 a1))) else (if ((mu (mu M (7, s0, b0, c0) 0 a1) (7, s0, b0, c0) 1 (if ((mu M (7, s0, b0, c0) 0 a1).1 (7, s0, b0, c0) 1) < a1 then a1 else ((mu M (7, s0, b0, c0) 0 a1).1 (7, s0, b0, c0) 1))).1 (7, s0, b0, c0) 4) = 0 then (w_X6_enlist s0 b0 c0 a1  (fun (M77 : Mem) => (Q M77)) (mu (mu M (7, s0, b0, c0) 0 a1) (7, s0, b0, c0) 1 (if ((mu M (7, s0, b0, c0) 0 a1).1 (7, s0, b0, c0) 1) < a1 then a1 else ((mu M (7, s0, b0, c0) 0 a1).1 (7, s0, b0, c0) 1)))) else (Q (mu (mu M (7, s0, b0, c0) 0 a1) (7, s0, b0, c0) 1 (if ((mu M (7, s0, b0, c0) 0 a1).1 (7, s0, b0, c0) 1) < a1 then a1 else ((mu M (7, s0, b0, c0) 0 a1).1 (7, s0, b0, c0) 1)))))) else (if ((mu M (7, s0, b0, c0) 0 (if a1 < (M.1 (7, s0, b0, c0) 0) then a1 else (M.1 (7, s0, b0, c0) 0))).1 (7, s0, b0, c0) 1) = (-2000000 : Int32) then (if ((mu (mu M (7, s0, b0, c0) 0 (if a1 < (M.1 (7, s0, b0, c0) 0) then a1 else (M.1 (7, s0, b0, c0) 0))) (7, s0, b0, c0) 1 a1).1 (7, s0, b0, c0) 4) = 0 then (w_X6_enlist s0 b0 c0 a1  (fun (M77 : Mem) => (Q M77)) (mu (mu M (7, s0, b0, c0) 0 (if a1 < (M.1 (7, s0, b0, c0) 0) then a1 else (M.1 (7, s0, b0, c0) 0))) (7, s0, b0, c0) 1 a1)) else (Q (mu (mu M (7, s0, b0, c0) 0 (if a1 < (M.1 (7, s0, b0, c0) 0) then a1 else (M.1 (7, s0, b0, c0) 0))) (7, s0, b0, c0) 1 a1))) else (if ((mu (mu M (7, s0, b0, c0) 0 (if a1 < (M.1 (7, s0, b0, c0) 0) then a1 else (M.1 (7, s0, b0, c0) 0))) (7, s0, b0, c0) 1 (if ((mu M (7, s0, b0, c0) 0 (if a1 < (M.1 (7, s0, b0, c0) 0) then a1 else (M.1 (7, s0, b0, c0) 0))).1 (7, s0, b0, c0) 1) < a1 then a1 else ((mu M (7, s0, b0, c0) 0 (if a1 < (M.1 (7, s0, b0, c0) 0) then a1 else (M.1 (7, s0, b0, c0) 0))).1 (7, s0, b0, c0) 1))).1 (7, s0, b0, c0) 4) = 0 then (w_X6_enlist s0 b0 c0 a1  (fun (M77 : Mem) => (Q M77)) (mu (mu M (7, s0, b0, c0) 0 (if a1 < (M.1 (7, s0, b0, c0) 0) then a1 else (M.1 (7, s0, b0, c0) 0))) (7, s0, b0, c0) 1 (if ((mu M (7, s0, b0, c0) 0 (if a1 < (M.1 (7, s0, b0, c0) 0) then a1 else (M.1 (7, s0, b0, c0) 0))).1 (7, s0, b0, c0) 1) < a1 then a1 else ((mu M (7, s0, b0, c0) 0 (if a1 < (M.1 (7, s0, b0, c0) 0) then a1 else (M.1 (7, s0, b0, c0) 0))).1 (7, s0, b0, c0) 1)))) else (Q (mu (mu M (7, s0, b0, c0) 0 (if a1 < (M.1 (7, s0, b0, c0) 0) then a1 else (M.1 (7, s0, b0, c0) 0))) (7, s0, b0, c0) 1 (if ((mu M (7, s0, b0, c0) 0 (if a1 < (M.1 (7, s0, b0, c0) 0) then a1 else (M.1 (7, s0, b0, c0) 0))).1 (7, s0, b0, c0) 1) < a1 then a1 else ((mu M (7, s0, b0, c0) 0 (if a1 < (M.1 (7, s0, b0, c0) 0) then a1 else (M.1 (7, s0, b0, c0) 0))).1 (7, s0, b0, c0) 1))))))))
section
variable {p : Program} {l : Launch} {e : Env} {s : State} {m : MethodId} {args : Array Value} {below : List Frame} {meth : Method} {c : Code} 
variable  {G : GG} {I : ix → Prop} {ad : ix → Nat}
set_option maxHeartbeats 4000000 in
set_option maxRecDepth 100000 in
theorem j_X6_come_0 {s0 : Nat} {b0 : Nat} {c0 : Nat} {a1 : Int32} (C : cx p s m args meth c cX6_come 2 none RX6 G) (hC : clo I) (h0 : I (7, s0, b0, c0)) {Q : Mem → Prop} : ∀ (M : Mem) (H : Heap) (locs : List Loc) (ls : Array Slot), w_X6_come s0 b0 c0 a1 Q M → wd G I ad M H → va_S (fA I ad) s.heap H locs → lv_has ls 2 [(0, .ref (ad (7, s0, b0, c0))), (1, .int a1)] → W p l e rm_X6_come s m args below meth c H locs 0 0 (MQ below (qV G I ad Q) args s 0 0 (fA I ad)) (F0 m 0 ls []) := by
  have hx := C.1
  have hb := C.2.1
  have hown := C.2.2.2.1
  have hts := C.2.2.2.2.1
  intro M H locs ls hw hP hS hl
  unfold w_X6_come at hw
  refine lv_iload_n (pc := 0) hx hb dX6_come_0 rfl (lv_at hl 1 rfl) ?_
  refine lv_sipush (pc := 1) (v := (1000 : Int32)) hx hb dX6_come_1 (by decide) ?_
  refine lv_icmp_ne (pc := 4) (tgt := 18) hx hb dX6_come_4 (by decide) (fun h => ?_) (fun h => ?_)
  · replace hw := if_f h hw
    refine lv_aload_n (pc := 18) hx hb dX6_come_18 rfl (lv_at hl 0 rfl) ?_
    refine lv_aload_n (pc := 19) hx hb dX6_come_19 rfl (lv_at hl 0 rfl) ?_
    refine gf_103 (pc := 20) C hP h0 dX6_come_20 ?_
    refine lv_ldc (pc := 23) (own := RX6) (v := (-2000000 : Int32)) hx hb hown (hts _ mw_102) dX6_come_23 ?_
    refine lv_icmp_ne (pc := 25) (tgt := 32) hx hb dX6_come_25 (by decide) (fun h => ?_) (fun h => ?_)
    · replace hw := if_f h hw
      refine lv_aload_n (pc := 32) hx hb dX6_come_32 rfl (lv_at hl 0 rfl) ?_
      refine gf_103 (pc := 33) C hP h0 dX6_come_33 ?_
      refine lv_iload_n (pc := 36) hx hb dX6_come_36 rfl (lv_at hl 1 rfl) ?_
      refine r_min (pc := 37) (rest := [.ref (ad (7, s0, b0, c0))]) C hl.1 mw_340 mw_341 mw_66 mw_342 (Nat.le_of_ble_eq_true rfl) (Nat.le_of_ble_eq_true rfl) (Nat.zero_le _) (Nat.zero_le _) dX6_come_37 ?_
      refine pf_103 (pc := 40) C hP hS h0 dX6_come_40 (fun H locs hP hS => ?_)
      refine lv_aload_n (pc := 43) hx hb dX6_come_43 rfl (lv_at hl 0 rfl) ?_
      refine lv_aload_n (pc := 44) hx hb dX6_come_44 rfl (lv_at hl 0 rfl) ?_
      refine gf_106 (pc := 45) C hP h0 dX6_come_45 ?_
      refine lv_ldc (pc := 48) (own := RX6) (v := (-2000000 : Int32)) hx hb hown (hts _ mw_102) dX6_come_48 ?_
      refine lv_icmp_ne (pc := 50) (tgt := 57) hx hb dX6_come_50 (by decide) (fun h => ?_) (fun h => ?_)
      · replace hw := if_f h hw
        refine lv_aload_n (pc := 57) hx hb dX6_come_57 rfl (lv_at hl 0 rfl) ?_
        refine gf_106 (pc := 58) C hP h0 dX6_come_58 ?_
        refine lv_iload_n (pc := 61) hx hb dX6_come_61 rfl (lv_at hl 1 rfl) ?_
        refine r_max (pc := 62) (rest := [.ref (ad (7, s0, b0, c0))]) C hl.1 mw_343 mw_344 mw_66 mw_345 (Nat.le_of_ble_eq_true rfl) (Nat.le_of_ble_eq_true rfl) (Nat.zero_le _) (Nat.zero_le _) dX6_come_62 ?_
        refine pf_106 (pc := 65) C hP hS h0 dX6_come_65 (fun H locs hP hS => ?_)
        refine lv_aload_n (pc := 68) hx hb dX6_come_68 rfl (lv_at hl 0 rfl) ?_
        refine gf_114 (pc := 69) C hP h0 dX6_come_69 ?_
        refine lv_if_ne (pc := 72) (tgt := 80) hx hb dX6_come_72 (by decide) (fun h => ?_) (fun h => ?_)
        · replace hw := if_f h hw
          exact r_vret (pc := 80) C hP hS hw dX6_come_80
        · replace hw := if_t h hw
          refine lv_aload_n (pc := 75) hx hb dX6_come_75 rfl (lv_at hl 0 rfl) ?_
          refine lv_iload_n (pc := 76) hx hb dX6_come_76 rfl (lv_at hl 1 rfl) ?_
          refine r_cVV (pc := 77) (rest := []) (As := [.int a1]) C hl.1 hP hS (k_X6_enlist l G hC h0 hw) h0 rfl rfl mw_346 mw_348 mw_1 mw_59 mw_349 ⟨rfl, rfl⟩ hd_X6_enlist rfl rfl ⟨Nat.le_of_ble_eq_true rfl, Nat.le_of_ble_eq_true rfl⟩ (Nat.le_of_ble_eq_true rfl) ⟨Nat.zero_le _, Nat.zero_le _⟩ dX6_come_77 (fun M77 H locs hw hP hS => ?_)
          exact r_vret (pc := 80) C hP hS hw dX6_come_80
      · replace hw := if_t h hw
        refine lv_iload_n (pc := 53) hx hb dX6_come_53 rfl (lv_at hl 1 rfl) ?_
        refine lv_goto (pc := 54) (tgt := 65) hx hb dX6_come_54 (by decide) ?_
        refine pf_106 (pc := 65) C hP hS h0 dX6_come_65 (fun H locs hP hS => ?_)
        refine lv_aload_n (pc := 68) hx hb dX6_come_68 rfl (lv_at hl 0 rfl) ?_
        refine gf_114 (pc := 69) C hP h0 dX6_come_69 ?_
        refine lv_if_ne (pc := 72) (tgt := 80) hx hb dX6_come_72 (by decide) (fun h => ?_) (fun h => ?_)
        · replace hw := if_f h hw
          exact r_vret (pc := 80) C hP hS hw dX6_come_80
        · replace hw := if_t h hw
          refine lv_aload_n (pc := 75) hx hb dX6_come_75 rfl (lv_at hl 0 rfl) ?_
          refine lv_iload_n (pc := 76) hx hb dX6_come_76 rfl (lv_at hl 1 rfl) ?_
          refine r_cVV (pc := 77) (rest := []) (As := [.int a1]) C hl.1 hP hS (k_X6_enlist l G hC h0 hw) h0 rfl rfl mw_346 mw_348 mw_1 mw_59 mw_349 ⟨rfl, rfl⟩ hd_X6_enlist rfl rfl ⟨Nat.le_of_ble_eq_true rfl, Nat.le_of_ble_eq_true rfl⟩ (Nat.le_of_ble_eq_true rfl) ⟨Nat.zero_le _, Nat.zero_le _⟩ dX6_come_77 (fun M77 H locs hw hP hS => ?_)
          exact r_vret (pc := 80) C hP hS hw dX6_come_80
    · replace hw := if_t h hw
      refine lv_iload_n (pc := 28) hx hb dX6_come_28 rfl (lv_at hl 1 rfl) ?_
      refine lv_goto (pc := 29) (tgt := 40) hx hb dX6_come_29 (by decide) ?_
      refine pf_103 (pc := 40) C hP hS h0 dX6_come_40 (fun H locs hP hS => ?_)
      refine lv_aload_n (pc := 43) hx hb dX6_come_43 rfl (lv_at hl 0 rfl) ?_
      refine lv_aload_n (pc := 44) hx hb dX6_come_44 rfl (lv_at hl 0 rfl) ?_
      refine gf_106 (pc := 45) C hP h0 dX6_come_45 ?_
      refine lv_ldc (pc := 48) (own := RX6) (v := (-2000000 : Int32)) hx hb hown (hts _ mw_102) dX6_come_48 ?_
      refine lv_icmp_ne (pc := 50) (tgt := 57) hx hb dX6_come_50 (by decide) (fun h => ?_) (fun h => ?_)
      · replace hw := if_f h hw
        refine lv_aload_n (pc := 57) hx hb dX6_come_57 rfl (lv_at hl 0 rfl) ?_
        refine gf_106 (pc := 58) C hP h0 dX6_come_58 ?_
        refine lv_iload_n (pc := 61) hx hb dX6_come_61 rfl (lv_at hl 1 rfl) ?_
        refine r_max (pc := 62) (rest := [.ref (ad (7, s0, b0, c0))]) C hl.1 mw_343 mw_344 mw_66 mw_345 (Nat.le_of_ble_eq_true rfl) (Nat.le_of_ble_eq_true rfl) (Nat.zero_le _) (Nat.zero_le _) dX6_come_62 ?_
        refine pf_106 (pc := 65) C hP hS h0 dX6_come_65 (fun H locs hP hS => ?_)
        refine lv_aload_n (pc := 68) hx hb dX6_come_68 rfl (lv_at hl 0 rfl) ?_
        refine gf_114 (pc := 69) C hP h0 dX6_come_69 ?_
        refine lv_if_ne (pc := 72) (tgt := 80) hx hb dX6_come_72 (by decide) (fun h => ?_) (fun h => ?_)
        · replace hw := if_f h hw
          exact r_vret (pc := 80) C hP hS hw dX6_come_80
        · replace hw := if_t h hw
          refine lv_aload_n (pc := 75) hx hb dX6_come_75 rfl (lv_at hl 0 rfl) ?_
          refine lv_iload_n (pc := 76) hx hb dX6_come_76 rfl (lv_at hl 1 rfl) ?_
          refine r_cVV (pc := 77) (rest := []) (As := [.int a1]) C hl.1 hP hS (k_X6_enlist l G hC h0 hw) h0 rfl rfl mw_346 mw_348 mw_1 mw_59 mw_349 ⟨rfl, rfl⟩ hd_X6_enlist rfl rfl ⟨Nat.le_of_ble_eq_true rfl, Nat.le_of_ble_eq_true rfl⟩ (Nat.le_of_ble_eq_true rfl) ⟨Nat.zero_le _, Nat.zero_le _⟩ dX6_come_77 (fun M77 H locs hw hP hS => ?_)
          exact r_vret (pc := 80) C hP hS hw dX6_come_80
      · replace hw := if_t h hw
        refine lv_iload_n (pc := 53) hx hb dX6_come_53 rfl (lv_at hl 1 rfl) ?_
        refine lv_goto (pc := 54) (tgt := 65) hx hb dX6_come_54 (by decide) ?_
        refine pf_106 (pc := 65) C hP hS h0 dX6_come_65 (fun H locs hP hS => ?_)
        refine lv_aload_n (pc := 68) hx hb dX6_come_68 rfl (lv_at hl 0 rfl) ?_
        refine gf_114 (pc := 69) C hP h0 dX6_come_69 ?_
        refine lv_if_ne (pc := 72) (tgt := 80) hx hb dX6_come_72 (by decide) (fun h => ?_) (fun h => ?_)
        · replace hw := if_f h hw
          exact r_vret (pc := 80) C hP hS hw dX6_come_80
        · replace hw := if_t h hw
          refine lv_aload_n (pc := 75) hx hb dX6_come_75 rfl (lv_at hl 0 rfl) ?_
          refine lv_iload_n (pc := 76) hx hb dX6_come_76 rfl (lv_at hl 1 rfl) ?_
          refine r_cVV (pc := 77) (rest := []) (As := [.int a1]) C hl.1 hP hS (k_X6_enlist l G hC h0 hw) h0 rfl rfl mw_346 mw_348 mw_1 mw_59 mw_349 ⟨rfl, rfl⟩ hd_X6_enlist rfl rfl ⟨Nat.le_of_ble_eq_true rfl, Nat.le_of_ble_eq_true rfl⟩ (Nat.le_of_ble_eq_true rfl) ⟨Nat.zero_le _, Nat.zero_le _⟩ dX6_come_77 (fun M77 H locs hw hP hS => ?_)
          exact r_vret (pc := 80) C hP hS hw dX6_come_80
  · replace hw := if_t h hw
    refine lv_aload_n (pc := 7) hx hb dX6_come_7 rfl (lv_at hl 0 rfl) ?_
    refine lv_dup (pc := 8) hx hb dX6_come_8 rfl ?_
    refine gf_109 (pc := 9) C hP h0 dX6_come_9 ?_
    refine lv_iconst (pc := 12) (v := (1 : Int32)) hx hb dX6_come_12 (by decide) ?_
    refine lv_iadd (pc := 13) hx hb dX6_come_13 ?_
    refine pf_109 (pc := 14) C hP hS h0 dX6_come_14 (fun H locs hP hS => ?_)
    exact r_vret (pc := 17) C hP hS hw dX6_come_17
end
theorem k_X6_come (l : Launch) (G : GG) {I : ix → Prop} {ad : ix → Nat} (hC : clo I) {s0 : Nat} {b0 : Nat} {c0 : Nat} {a1 : Int32} (h0 : I (7, s0, b0, c0)) {Q : Mem → Prop} {M : Mem} (hw : w_X6_come s0 b0 c0 a1 Q M) : Met l yX6_come (wW yX6_come cX6_come 2 none) rm_X6_come (va_Pc [.ref (ad (7, s0, b0, c0)), .int a1] (fun U => wd G I ad M U.heap ∧ wK G U)) (qV G I ad Q) 0 0 (fA I ad) := met_of (by decide +kernel) (Nat.le_of_ble_eq_true rfl) (fun p e s m below meth c C hP hS ls hl => j_X6_come_0 C hC h0 _ _ _ _ hw hP hS hl)
abbrev rm_X6_leave : Room := { frames := 1, cells := 0, slots := 0, locals := 22 }
theorem hd_X6_leave : yX6_leave.cls ≠ "java/lang/invoke/MethodHandle" ∧ yX6_leave.cls ≠ "java/lang/invoke/VarHandle" ∧ (parseMethodDescriptor yX6_leave.desc).map (fun d => d.parameters.length) = some 1 := ⟨by decide +kernel, by decide +kernel, by decide +kernel⟩
def w_X6_leave (s0 : Nat) (b0 : Nat) (c0 : Nat) (a1 : Int32) (Q : Mem → Prop) (M : Mem) : Prop := (if a1 = (1000 : Int32) then (Q (mu M (7, s0, b0, c0) 2 ((M.1 (7, s0, b0, c0) 2) - (1 : Int32)))) else (w_X6_placeOf s0 b0 c0 a1  (fun (r20 : Int32) (M20 : Mem) => (if r20 = (-2000000 : Int32) then (Q M20) else (vp_in r20 4 ∧ (vp_in r20 4 ∧ (Q (mu M20 (9, s0, b0, c0) (r20.toNatClampNeg) ((M20.1 (9, s0, b0, c0) r20.toNatClampNeg) - (1 : Int32)))))))) M))
section
variable {p : Program} {l : Launch} {e : Env} {s : State} {m : MethodId} {args : Array Value} {below : List Frame} {meth : Method} {c : Code} 
variable  {G : GG} {I : ix → Prop} {ad : ix → Nat}
set_option maxHeartbeats 4000000 in
set_option maxRecDepth 100000 in
theorem j_X6_leave_0 {s0 : Nat} {b0 : Nat} {c0 : Nat} {a1 : Int32} (C : cx p s m args meth c cX6_leave 3 none RX6 G) (hC : clo I) (h0 : I (7, s0, b0, c0)) {Q : Mem → Prop} : ∀ (M : Mem) (H : Heap) (locs : List Loc) (ls : Array Slot), w_X6_leave s0 b0 c0 a1 Q M → wd G I ad M H → va_S (fA I ad) s.heap H locs → lv_has ls 3 [(0, .ref (ad (7, s0, b0, c0))), (1, .int a1)] → W p l e rm_X6_leave s m args below meth c H locs 0 0 (MQ below (qV G I ad Q) args s 0 0 (fA I ad)) (F0 m 0 ls []) := by
  have hx := C.1
  have hb := C.2.1
  have hown := C.2.2.2.1
  have hts := C.2.2.2.2.1
  intro M H locs ls hw hP hS hl
  unfold w_X6_leave at hw
  refine lv_iload_n (pc := 0) hx hb dX6_leave_0 rfl (lv_at hl 1 rfl) ?_
  refine lv_sipush (pc := 1) (v := (1000 : Int32)) hx hb dX6_leave_1 (by decide) ?_
  refine lv_icmp_ne (pc := 4) (tgt := 18) hx hb dX6_leave_4 (by decide) (fun h => ?_) (fun h => ?_)
  · replace hw := if_f h hw
    refine lv_aload_n (pc := 18) hx hb dX6_leave_18 rfl (lv_at hl 0 rfl) ?_
    refine lv_iload_n (pc := 19) hx hb dX6_leave_19 rfl (lv_at hl 1 rfl) ?_
    refine r_cVI (pc := 20) (rest := []) (As := [.int a1]) C hl.1 hP hS (k_X6_placeOf l G hC h0 hw) h0 rfl rfl mw_350 mw_352 mw_2 mw_59 mw_353 ⟨rfl, rfl⟩ hd_X6_placeOf rfl rfl ⟨Nat.le_of_ble_eq_true rfl, Nat.le_of_ble_eq_true rfl⟩ (Nat.le_of_ble_eq_true rfl) ⟨Nat.zero_le _, Nat.zero_le _⟩ dX6_leave_20 (fun r20 M20 H locs hw hP hS => ?_)
    refine lv_istore_n (pc := 23) (lv' := [(2, .int r20), (0, .ref (ad (7, s0, b0, c0))), (1, .int a1)]) hx hb dX6_leave_23 rfl hl (by decide) rfl (fun ls hl => ?_)
    refine lv_iload_n (pc := 24) hx hb dX6_leave_24 rfl (lv_at hl 0 rfl) ?_
    refine lv_ldc (pc := 25) (own := RX6) (v := (-2000000 : Int32)) hx hb hown (hts _ mw_102) dX6_leave_25 ?_
    refine lv_icmp_eq (pc := 27) (tgt := 40) hx hb dX6_leave_27 (by decide) (fun h => ?_) (fun h => ?_)
    · replace hw := if_t h hw
      exact r_vret (pc := 40) C hP hS hw dX6_leave_40
    · replace hw := if_f h hw
      refine lv_aload_n (pc := 30) hx hb dX6_leave_30 rfl (lv_at hl 1 rfl) ?_
      refine gf_118 (pc := 31) C hP h0 dX6_leave_31 ?_
      refine lv_iload_n (pc := 34) hx hb dX6_leave_34 rfl (lv_at hl 0 rfl) ?_
      refine lv_dup2_11 (pc := 35) hx hb dX6_leave_35 rfl rfl ?_
      refine r_ialdK (pc := 36) (n := 4) (k := r20.toNatClampNeg) C hP (cl_7_6 hC h0) (fun _ _ _ _ => rfl) hw.1 rfl dX6_leave_36 ?_
      replace hw := hw.2
      refine lv_iconst (pc := 37) (v := (1 : Int32)) hx hb dX6_leave_37 (by decide) ?_
      refine lv_isub (pc := 38) hx hb dX6_leave_38 ?_
      refine r_iastK (pc := 39) (n := 4) (k := r20.toNatClampNeg) C hP hS (cl_7_6 hC h0) (fun _ _ _ _ => rfl) hw.1 rfl dX6_leave_39 (fun H locs hP hS => ?_)
      replace hw := hw.2
      exact r_vret (pc := 40) C hP hS hw dX6_leave_40
  · replace hw := if_t h hw
    refine lv_aload_n (pc := 7) hx hb dX6_leave_7 rfl (lv_at hl 0 rfl) ?_
    refine lv_dup (pc := 8) hx hb dX6_leave_8 rfl ?_
    refine gf_109 (pc := 9) C hP h0 dX6_leave_9 ?_
    refine lv_iconst (pc := 12) (v := (1 : Int32)) hx hb dX6_leave_12 (by decide) ?_
    refine lv_isub (pc := 13) hx hb dX6_leave_13 ?_
    refine pf_109 (pc := 14) C hP hS h0 dX6_leave_14 (fun H locs hP hS => ?_)
    exact r_vret (pc := 17) C hP hS hw dX6_leave_17
end
theorem k_X6_leave (l : Launch) (G : GG) {I : ix → Prop} {ad : ix → Nat} (hC : clo I) {s0 : Nat} {b0 : Nat} {c0 : Nat} {a1 : Int32} (h0 : I (7, s0, b0, c0)) {Q : Mem → Prop} {M : Mem} (hw : w_X6_leave s0 b0 c0 a1 Q M) : Met l yX6_leave (wW yX6_leave cX6_leave 3 none) rm_X6_leave (va_Pc [.ref (ad (7, s0, b0, c0)), .int a1] (fun U => wd G I ad M U.heap ∧ wK G U)) (qV G I ad Q) 0 0 (fA I ad) := met_of (by decide +kernel) (Nat.le_of_ble_eq_true rfl) (fun p e s m below meth c C hP hS ls hl => j_X6_leave_0 C hC h0 _ _ _ _ hw hP hS hl)
abbrev rm_X6_differsFrom : Room := { frames := 1, cells := 0, slots := 0, locals := 22 }
theorem hd_X6_differsFrom : yX6_differsFrom.cls ≠ "java/lang/invoke/MethodHandle" ∧ yX6_differsFrom.cls ≠ "java/lang/invoke/VarHandle" ∧ (parseMethodDescriptor yX6_differsFrom.desc).map (fun d => d.parameters.length) = some 1 := ⟨by decide +kernel, by decide +kernel, by decide +kernel⟩
def w_X6_differsFrom_50 (s0 : Nat) (b0 : Nat) (c0 : Nat) (s1 : Nat) (b1 : Nat) (c1 : Nat) (Q : Int32 → Mem → Prop) : Nat → Int32 → Mem → Prop
  | 0, _, _ => False
  | n + 1, x2, M => (if (M.1 (7, s1, b1, c1) 3) ≤ x2 then (Q (0 : Int32) M) else (vp_in x2 4 ∧ (w_X6_placeOf s0 b0 c0 (M.1 (8, s1, b1, c1) x2.toNatClampNeg)  (fun (r65 : Int32) (M65 : Mem) => (if r65 = (-2000000 : Int32) then (Q (1 : Int32) M65) else ((w_X6_differsFrom_50 s0 b0 c0 s1 b1 c1 Q n) (x2 + 1) M65))) M)))
def w_X6_differsFrom (s0 : Nat) (b0 : Nat) (c0 : Nat) (s1 : Nat) (b1 : Nat) (c1 : Nat) (Q : Int32 → Mem → Prop) (M : Mem) : Prop := (if (M.1 (7, s0, b0, c0) 0) = (M.1 (7, s1, b1, c1) 0) then (if (M.1 (7, s0, b0, c0) 1) = (M.1 (7, s1, b1, c1) 1) then (if (M.1 (7, s0, b0, c0) 4) = (M.1 (7, s1, b1, c1) 4) then (if (M.1 (7, s0, b0, c0) 3) = (M.1 (7, s1, b1, c1) 3) then (∃ n : Nat, w_X6_differsFrom_50 s0 b0 c0 s1 b1 c1 Q n (0 : Int32) M) else (Q (1 : Int32) M)) else (Q (1 : Int32) M)) else (Q (1 : Int32) M)) else (Q (1 : Int32) M))
section
variable {p : Program} {l : Launch} {e : Env} {s : State} {m : MethodId} {args : Array Value} {below : List Frame} {meth : Method} {c : Code} 
variable  {G : GG} {I : ix → Prop} {ad : ix → Nat}
set_option maxHeartbeats 4000000 in
set_option maxRecDepth 100000 in
theorem j_X6_differsFrom_50 {s0 : Nat} {b0 : Nat} {c0 : Nat} {s1 : Nat} {b1 : Nat} {c1 : Nat} (C : cx p s m args meth c cX6_differsFrom 3 (some .boolean) RX6 G) (hC : clo I) (h0 : I (7, s0, b0, c0)) (h1 : I (7, s1, b1, c1)) {Q : Int32 → Mem → Prop} : ∀ (n : Nat), ∀ (x2 : Int32) (M : Mem) (H : Heap) (locs : List Loc) (ls : Array Slot), w_X6_differsFrom_50 s0 b0 c0 s1 b1 c1 Q n x2 M → wd G I ad M H → va_S (fA I ad) s.heap H locs → lv_has ls 3 [(0, .ref (ad (7, s0, b0, c0))), (1, .ref (ad (7, s1, b1, c1))), (2, .int x2)] → W p l e rm_X6_differsFrom s m args below meth c H locs 0 0 (MQ below (qI G I ad Q) args s 0 0 (fA I ad)) (F0 m 50 ls []) := by
  have hx := C.1
  have hb := C.2.1
  have hown := C.2.2.2.1
  have hts := C.2.2.2.2.1
  intro n
  induction n with
  | zero =>
    intro x2 M H locs ls hw hP hS hl
    rw [w_X6_differsFrom_50] at hw
    exact hw.elim
  | succ n ih =>
    intro x2 M H locs ls hw hP hS hl
    rw [w_X6_differsFrom_50] at hw
    refine lv_iload_n (pc := 50) hx hb dX6_differsFrom_50 rfl (lv_at hl 2 rfl) ?_
    refine lv_aload_n (pc := 51) hx hb dX6_differsFrom_51 rfl (lv_at hl 1 rfl) ?_
    refine gf_112 (pc := 52) C hP h1 dX6_differsFrom_52 ?_
    refine lv_icmp_ge (pc := 55) (tgt := 81) hx hb dX6_differsFrom_55 (by decide) (fun h => ?_) (fun h => ?_)
    · replace hw := if_t h hw
      refine lv_iconst (pc := 81) (v := (0 : Int32)) hx hb dX6_differsFrom_81 (by decide) ?_
      exact r_zret (pc := 82) C hP hS (by decide) hw dX6_differsFrom_82
    · replace hw := if_f h hw
      refine lv_aload_n (pc := 58) hx hb dX6_differsFrom_58 rfl (lv_at hl 0 rfl) ?_
      refine lv_aload_n (pc := 59) hx hb dX6_differsFrom_59 rfl (lv_at hl 1 rfl) ?_
      refine gf_116 (pc := 60) C hP h1 dX6_differsFrom_60 ?_
      refine lv_iload_n (pc := 63) hx hb dX6_differsFrom_63 rfl (lv_at hl 2 rfl) ?_
      refine r_ialdK (pc := 64) (n := 4) (k := x2.toNatClampNeg) C hP (cl_7_5 hC h1) (fun _ _ _ _ => rfl) hw.1 rfl dX6_differsFrom_64 ?_
      replace hw := hw.2
      refine r_cVI (pc := 65) (rest := []) (As := [.int (M.1 (8, s1, b1, c1) x2.toNatClampNeg)]) C hl.1 hP hS (k_X6_placeOf l G hC h0 hw) h0 rfl rfl mw_350 mw_352 mw_2 mw_59 mw_353 ⟨rfl, rfl⟩ hd_X6_placeOf rfl rfl ⟨Nat.le_of_ble_eq_true rfl, Nat.le_of_ble_eq_true rfl⟩ (Nat.le_of_ble_eq_true rfl) ⟨Nat.zero_le _, Nat.zero_le _⟩ dX6_differsFrom_65 (fun r65 M65 H locs hw hP hS => ?_)
      refine lv_ldc (pc := 68) (own := RX6) (v := (-2000000 : Int32)) hx hb hown (hts _ mw_102) dX6_differsFrom_68 ?_
      refine lv_icmp_ne (pc := 70) (tgt := 75) hx hb dX6_differsFrom_70 (by decide) (fun h => ?_) (fun h => ?_)
      · replace hw := if_f h hw
        refine lv_iinc (pc := 75) (v := x2 + 1) (lv' := [(2, .int (x2 + 1)), (0, .ref (ad (7, s0, b0, c0))), (1, .ref (ad (7, s1, b1, c1)))]) hx hb dX6_differsFrom_75 hl (k := 2) rfl rfl (by decide) rfl (fun ls hl => ?_)
        refine lv_goto (pc := 78) (tgt := 50) hx hb dX6_differsFrom_78 (by decide) ?_
        exact ih (x2 + 1) M65 _ _ _ hw hP hS (lv_sub hl [1, 2, 0] rfl)
      · replace hw := if_t h hw
        refine lv_iconst (pc := 73) (v := (1 : Int32)) hx hb dX6_differsFrom_73 (by decide) ?_
        exact r_zret (pc := 74) C hP hS (by decide) hw dX6_differsFrom_74
set_option maxHeartbeats 4000000 in
set_option maxRecDepth 100000 in
theorem j_X6_differsFrom_0 {s0 : Nat} {b0 : Nat} {c0 : Nat} {s1 : Nat} {b1 : Nat} {c1 : Nat} (C : cx p s m args meth c cX6_differsFrom 3 (some .boolean) RX6 G) (hC : clo I) (h0 : I (7, s0, b0, c0)) (h1 : I (7, s1, b1, c1)) {Q : Int32 → Mem → Prop} : ∀ (M : Mem) (H : Heap) (locs : List Loc) (ls : Array Slot), w_X6_differsFrom s0 b0 c0 s1 b1 c1 Q M → wd G I ad M H → va_S (fA I ad) s.heap H locs → lv_has ls 3 [(0, .ref (ad (7, s0, b0, c0))), (1, .ref (ad (7, s1, b1, c1)))] → W p l e rm_X6_differsFrom s m args below meth c H locs 0 0 (MQ below (qI G I ad Q) args s 0 0 (fA I ad)) (F0 m 0 ls []) := by
  have hx := C.1
  have hb := C.2.1
  have hown := C.2.2.2.1
  have hts := C.2.2.2.2.1
  intro M H locs ls hw hP hS hl
  unfold w_X6_differsFrom at hw
  refine lv_aload_n (pc := 0) hx hb dX6_differsFrom_0 rfl (lv_at hl 0 rfl) ?_
  refine gf_103 (pc := 1) C hP h0 dX6_differsFrom_1 ?_
  refine lv_aload_n (pc := 4) hx hb dX6_differsFrom_4 rfl (lv_at hl 1 rfl) ?_
  refine gf_103 (pc := 5) C hP h1 dX6_differsFrom_5 ?_
  refine lv_icmp_ne (pc := 8) (tgt := 22) hx hb dX6_differsFrom_8 (by decide) (fun h => ?_) (fun h => ?_)
  · replace hw := if_f h hw
    refine lv_iconst (pc := 22) (v := (1 : Int32)) hx hb dX6_differsFrom_22 (by decide) ?_
    exact r_zret (pc := 23) C hP hS (by decide) hw dX6_differsFrom_23
  · replace hw := if_t h hw
    refine lv_aload_n (pc := 11) hx hb dX6_differsFrom_11 rfl (lv_at hl 0 rfl) ?_
    refine gf_106 (pc := 12) C hP h0 dX6_differsFrom_12 ?_
    refine lv_aload_n (pc := 15) hx hb dX6_differsFrom_15 rfl (lv_at hl 1 rfl) ?_
    refine gf_106 (pc := 16) C hP h1 dX6_differsFrom_16 ?_
    refine lv_icmp_eq (pc := 19) (tgt := 24) hx hb dX6_differsFrom_19 (by decide) (fun h => ?_) (fun h => ?_)
    · replace hw := if_t h hw
      refine lv_aload_n (pc := 24) hx hb dX6_differsFrom_24 rfl (lv_at hl 0 rfl) ?_
      refine gf_114 (pc := 25) C hP h0 dX6_differsFrom_25 ?_
      refine lv_aload_n (pc := 28) hx hb dX6_differsFrom_28 rfl (lv_at hl 1 rfl) ?_
      refine gf_114 (pc := 29) C hP h1 dX6_differsFrom_29 ?_
      refine lv_icmp_ne (pc := 32) (tgt := 46) hx hb dX6_differsFrom_32 (by decide) (fun h => ?_) (fun h => ?_)
      · replace hw := if_f h hw
        refine lv_iconst (pc := 46) (v := (1 : Int32)) hx hb dX6_differsFrom_46 (by decide) ?_
        exact r_zret (pc := 47) C hP hS (by decide) hw dX6_differsFrom_47
      · replace hw := if_t h hw
        refine lv_aload_n (pc := 35) hx hb dX6_differsFrom_35 rfl (lv_at hl 0 rfl) ?_
        refine gf_112 (pc := 36) C hP h0 dX6_differsFrom_36 ?_
        refine lv_aload_n (pc := 39) hx hb dX6_differsFrom_39 rfl (lv_at hl 1 rfl) ?_
        refine gf_112 (pc := 40) C hP h1 dX6_differsFrom_40 ?_
        refine lv_icmp_eq (pc := 43) (tgt := 48) hx hb dX6_differsFrom_43 (by decide) (fun h => ?_) (fun h => ?_)
        · replace hw := if_t h hw
          refine lv_iconst (pc := 48) (v := (0 : Int32)) hx hb dX6_differsFrom_48 (by decide) ?_
          refine lv_istore_n (pc := 49) (lv' := [(2, .int (0 : Int32)), (0, .ref (ad (7, s0, b0, c0))), (1, .ref (ad (7, s1, b1, c1)))]) hx hb dX6_differsFrom_49 rfl hl (by decide) rfl (fun ls hl => ?_)
          obtain ⟨n0, hw⟩ := hw
          exact j_X6_differsFrom_50 C hC h0 h1 n0 (0 : Int32) M _ _ _ hw hP hS (lv_sub hl [1, 2, 0] rfl)
        · replace hw := if_f h hw
          refine lv_iconst (pc := 46) (v := (1 : Int32)) hx hb dX6_differsFrom_46 (by decide) ?_
          exact r_zret (pc := 47) C hP hS (by decide) hw dX6_differsFrom_47
    · replace hw := if_f h hw
      refine lv_iconst (pc := 22) (v := (1 : Int32)) hx hb dX6_differsFrom_22 (by decide) ?_
      exact r_zret (pc := 23) C hP hS (by decide) hw dX6_differsFrom_23
end
theorem k_X6_differsFrom (l : Launch) (G : GG) {I : ix → Prop} {ad : ix → Nat} (hC : clo I) {s0 : Nat} {b0 : Nat} {c0 : Nat} {s1 : Nat} {b1 : Nat} {c1 : Nat} (h0 : I (7, s0, b0, c0)) (h1 : I (7, s1, b1, c1)) {Q : Int32 → Mem → Prop} {M : Mem} (hw : w_X6_differsFrom s0 b0 c0 s1 b1 c1 Q M) : Met l yX6_differsFrom (wW yX6_differsFrom cX6_differsFrom 3 (some .boolean)) rm_X6_differsFrom (va_Pc [.ref (ad (7, s0, b0, c0)), .ref (ad (7, s1, b1, c1))] (fun U => wd G I ad M U.heap ∧ wK G U)) (qI G I ad Q) 0 0 (fA I ad) := met_of (by decide +kernel) (Nat.le_of_ble_eq_true rfl) (fun p e s m below meth c C hP hS ls hl => j_X6_differsFrom_0 C hC h0 h1 _ _ _ _ hw hP hS hl)
abbrev rm_X6_copyFrom : Room := { frames := 1, cells := 0, slots := 0, locals := 26 }
theorem hd_X6_copyFrom : yX6_copyFrom.cls ≠ "java/lang/invoke/MethodHandle" ∧ yX6_copyFrom.cls ≠ "java/lang/invoke/VarHandle" ∧ (parseMethodDescriptor yX6_copyFrom.desc).map (fun d => d.parameters.length) = some 1 := ⟨by decide +kernel, by decide +kernel, by decide +kernel⟩
def w_X6_copyFrom (s0 : Nat) (b0 : Nat) (c0 : Nat) (s1 : Nat) (b1 : Nat) (c1 : Nat) (Q : Mem → Prop) (M : Mem) : Prop := ((((mu (mu (mu (mu M (7, s0, b0, c0) 0 (M.1 (7, s1, b1, c1) 0)) (7, s0, b0, c0) 1 ((mu M (7, s0, b0, c0) 0 (M.1 (7, s1, b1, c1) 0)).1 (7, s1, b1, c1) 1)) (7, s0, b0, c0) 2 ((mu (mu M (7, s0, b0, c0) 0 (M.1 (7, s1, b1, c1) 0)) (7, s0, b0, c0) 1 ((mu M (7, s0, b0, c0) 0 (M.1 (7, s1, b1, c1) 0)).1 (7, s1, b1, c1) 1)).1 (7, s1, b1, c1) 2)) (7, s0, b0, c0) 3 ((mu (mu (mu M (7, s0, b0, c0) 0 (M.1 (7, s1, b1, c1) 0)) (7, s0, b0, c0) 1 ((mu M (7, s0, b0, c0) 0 (M.1 (7, s1, b1, c1) 0)).1 (7, s1, b1, c1) 1)) (7, s0, b0, c0) 2 ((mu (mu M (7, s0, b0, c0) 0 (M.1 (7, s1, b1, c1) 0)) (7, s0, b0, c0) 1 ((mu M (7, s0, b0, c0) 0 (M.1 (7, s1, b1, c1) 0)).1 (7, s1, b1, c1) 1)).1 (7, s1, b1, c1) 2)).1 (7, s1, b1, c1) 3)).1 (7, s1, b1, c1) 4) = 0 ∨ ((mu (mu (mu (mu M (7, s0, b0, c0) 0 (M.1 (7, s1, b1, c1) 0)) (7, s0, b0, c0) 1 ((mu M (7, s0, b0, c0) 0 (M.1 (7, s1, b1, c1) 0)).1 (7, s1, b1, c1) 1)) (7, s0, b0, c0) 2 ((mu (mu M (7, s0, b0, c0) 0 (M.1 (7, s1, b1, c1) 0)) (7, s0, b0, c0) 1 ((mu M (7, s0, b0, c0) 0 (M.1 (7, s1, b1, c1) 0)).1 (7, s1, b1, c1) 1)).1 (7, s1, b1, c1) 2)) (7, s0, b0, c0) 3 ((mu (mu (mu M (7, s0, b0, c0) 0 (M.1 (7, s1, b1, c1) 0)) (7, s0, b0, c0) 1 ((mu M (7, s0, b0, c0) 0 (M.1 (7, s1, b1, c1) 0)).1 (7, s1, b1, c1) 1)) (7, s0, b0, c0) 2 ((mu (mu M (7, s0, b0, c0) 0 (M.1 (7, s1, b1, c1) 0)) (7, s0, b0, c0) 1 ((mu M (7, s0, b0, c0) 0 (M.1 (7, s1, b1, c1) 0)).1 (7, s1, b1, c1) 1)).1 (7, s1, b1, c1) 2)).1 (7, s1, b1, c1) 3)).1 (7, s1, b1, c1) 4) = 1) ∧ (Q (mr (mr (mu (mu (mu (mu (mu M (7, s0, b0, c0) 0 (M.1 (7, s1, b1, c1) 0)) (7, s0, b0, c0) 1 ((mu M (7, s0, b0, c0) 0 (M.1 (7, s1, b1, c1) 0)).1 (7, s1, b1, c1) 1)) (7, s0, b0, c0) 2 ((mu (mu M (7, s0, b0, c0) 0 (M.1 (7, s1, b1, c1) 0)) (7, s0, b0, c0) 1 ((mu M (7, s0, b0, c0) 0 (M.1 (7, s1, b1, c1) 0)).1 (7, s1, b1, c1) 1)).1 (7, s1, b1, c1) 2)) (7, s0, b0, c0) 3 ((mu (mu (mu M (7, s0, b0, c0) 0 (M.1 (7, s1, b1, c1) 0)) (7, s0, b0, c0) 1 ((mu M (7, s0, b0, c0) 0 (M.1 (7, s1, b1, c1) 0)).1 (7, s1, b1, c1) 1)) (7, s0, b0, c0) 2 ((mu (mu M (7, s0, b0, c0) 0 (M.1 (7, s1, b1, c1) 0)) (7, s0, b0, c0) 1 ((mu M (7, s0, b0, c0) 0 (M.1 (7, s1, b1, c1) 0)).1 (7, s1, b1, c1) 1)).1 (7, s1, b1, c1) 2)).1 (7, s1, b1, c1) 3)) (7, s0, b0, c0) 4 ((mu (mu (mu (mu M (7, s0, b0, c0) 0 (M.1 (7, s1, b1, c1) 0)) (7, s0, b0, c0) 1 ((mu M (7, s0, b0, c0) 0 (M.1 (7, s1, b1, c1) 0)).1 (7, s1, b1, c1) 1)) (7, s0, b0, c0) 2 ((mu (mu M (7, s0, b0, c0) 0 (M.1 (7, s1, b1, c1) 0)) (7, s0, b0, c0) 1 ((mu M (7, s0, b0, c0) 0 (M.1 (7, s1, b1, c1) 0)).1 (7, s1, b1, c1) 1)).1 (7, s1, b1, c1) 2)) (7, s0, b0, c0) 3 ((mu (mu (mu M (7, s0, b0, c0) 0 (M.1 (7, s1, b1, c1) 0)) (7, s0, b0, c0) 1 ((mu M (7, s0, b0, c0) 0 (M.1 (7, s1, b1, c1) 0)).1 (7, s1, b1, c1) 1)) (7, s0, b0, c0) 2 ((mu (mu M (7, s0, b0, c0) 0 (M.1 (7, s1, b1, c1) 0)) (7, s0, b0, c0) 1 ((mu M (7, s0, b0, c0) 0 (M.1 (7, s1, b1, c1) 0)).1 (7, s1, b1, c1) 1)).1 (7, s1, b1, c1) 2)).1 (7, s1, b1, c1) 3)).1 (7, s1, b1, c1) 4)) (8, s0, b0, c0) (va_cpy ((mu (mu (mu (mu (mu M (7, s0, b0, c0) 0 (M.1 (7, s1, b1, c1) 0)) (7, s0, b0, c0) 1 ((mu M (7, s0, b0, c0) 0 (M.1 (7, s1, b1, c1) 0)).1 (7, s1, b1, c1) 1)) (7, s0, b0, c0) 2 ((mu (mu M (7, s0, b0, c0) 0 (M.1 (7, s1, b1, c1) 0)) (7, s0, b0, c0) 1 ((mu M (7, s0, b0, c0) 0 (M.1 (7, s1, b1, c1) 0)).1 (7, s1, b1, c1) 1)).1 (7, s1, b1, c1) 2)) (7, s0, b0, c0) 3 ((mu (mu (mu M (7, s0, b0, c0) 0 (M.1 (7, s1, b1, c1) 0)) (7, s0, b0, c0) 1 ((mu M (7, s0, b0, c0) 0 (M.1 (7, s1, b1, c1) 0)).1 (7, s1, b1, c1) 1)) (7, s0, b0, c0) 2 ((mu (mu M (7, s0, b0, c0) 0 (M.1 (7, s1, b1, c1) 0)) (7, s0, b0, c0) 1 ((mu M (7, s0, b0, c0) 0 (M.1 (7, s1, b1, c1) 0)).1 (7, s1, b1, c1) 1)).1 (7, s1, b1, c1) 2)).1 (7, s1, b1, c1) 3)) (7, s0, b0, c0) 4 ((mu (mu (mu (mu M (7, s0, b0, c0) 0 (M.1 (7, s1, b1, c1) 0)) (7, s0, b0, c0) 1 ((mu M (7, s0, b0, c0) 0 (M.1 (7, s1, b1, c1) 0)).1 (7, s1, b1, c1) 1)) (7, s0, b0, c0) 2 ((mu (mu M (7, s0, b0, c0) 0 (M.1 (7, s1, b1, c1) 0)) (7, s0, b0, c0) 1 ((mu M (7, s0, b0, c0) 0 (M.1 (7, s1, b1, c1) 0)).1 (7, s1, b1, c1) 1)).1 (7, s1, b1, c1) 2)) (7, s0, b0, c0) 3 ((mu (mu (mu M (7, s0, b0, c0) 0 (M.1 (7, s1, b1, c1) 0)) (7, s0, b0, c0) 1 ((mu M (7, s0, b0, c0) 0 (M.1 (7, s1, b1, c1) 0)).1 (7, s1, b1, c1) 1)) (7, s0, b0, c0) 2 ((mu (mu M (7, s0, b0, c0) 0 (M.1 (7, s1, b1, c1) 0)) (7, s0, b0, c0) 1 ((mu M (7, s0, b0, c0) 0 (M.1 (7, s1, b1, c1) 0)).1 (7, s1, b1, c1) 1)).1 (7, s1, b1, c1) 2)).1 (7, s1, b1, c1) 3)).1 (7, s1, b1, c1) 4)).1 (8, s1, b1, c1)) ((mu (mu (mu (mu (mu M (7, s0, b0, c0) 0 (M.1 (7, s1, b1, c1) 0)) (7, s0, b0, c0) 1 ((mu M (7, s0, b0, c0) 0 (M.1 (7, s1, b1, c1) 0)).1 (7, s1, b1, c1) 1)) (7, s0, b0, c0) 2 ((mu (mu M (7, s0, b0, c0) 0 (M.1 (7, s1, b1, c1) 0)) (7, s0, b0, c0) 1 ((mu M (7, s0, b0, c0) 0 (M.1 (7, s1, b1, c1) 0)).1 (7, s1, b1, c1) 1)).1 (7, s1, b1, c1) 2)) (7, s0, b0, c0) 3 ((mu (mu (mu M (7, s0, b0, c0) 0 (M.1 (7, s1, b1, c1) 0)) (7, s0, b0, c0) 1 ((mu M (7, s0, b0, c0) 0 (M.1 (7, s1, b1, c1) 0)).1 (7, s1, b1, c1) 1)) (7, s0, b0, c0) 2 ((mu (mu M (7, s0, b0, c0) 0 (M.1 (7, s1, b1, c1) 0)) (7, s0, b0, c0) 1 ((mu M (7, s0, b0, c0) 0 (M.1 (7, s1, b1, c1) 0)).1 (7, s1, b1, c1) 1)).1 (7, s1, b1, c1) 2)).1 (7, s1, b1, c1) 3)) (7, s0, b0, c0) 4 ((mu (mu (mu (mu M (7, s0, b0, c0) 0 (M.1 (7, s1, b1, c1) 0)) (7, s0, b0, c0) 1 ((mu M (7, s0, b0, c0) 0 (M.1 (7, s1, b1, c1) 0)).1 (7, s1, b1, c1) 1)) (7, s0, b0, c0) 2 ((mu (mu M (7, s0, b0, c0) 0 (M.1 (7, s1, b1, c1) 0)) (7, s0, b0, c0) 1 ((mu M (7, s0, b0, c0) 0 (M.1 (7, s1, b1, c1) 0)).1 (7, s1, b1, c1) 1)).1 (7, s1, b1, c1) 2)) (7, s0, b0, c0) 3 ((mu (mu (mu M (7, s0, b0, c0) 0 (M.1 (7, s1, b1, c1) 0)) (7, s0, b0, c0) 1 ((mu M (7, s0, b0, c0) 0 (M.1 (7, s1, b1, c1) 0)).1 (7, s1, b1, c1) 1)) (7, s0, b0, c0) 2 ((mu (mu M (7, s0, b0, c0) 0 (M.1 (7, s1, b1, c1) 0)) (7, s0, b0, c0) 1 ((mu M (7, s0, b0, c0) 0 (M.1 (7, s1, b1, c1) 0)).1 (7, s1, b1, c1) 1)).1 (7, s1, b1, c1) 2)).1 (7, s1, b1, c1) 3)).1 (7, s1, b1, c1) 4)).1 (8, s0, b0, c0)) 0 0 4)) (9, s0, b0, c0) (va_cpy ((mr (mu (mu (mu (mu (mu M (7, s0, b0, c0) 0 (M.1 (7, s1, b1, c1) 0)) (7, s0, b0, c0) 1 ((mu M (7, s0, b0, c0) 0 (M.1 (7, s1, b1, c1) 0)).1 (7, s1, b1, c1) 1)) (7, s0, b0, c0) 2 ((mu (mu M (7, s0, b0, c0) 0 (M.1 (7, s1, b1, c1) 0)) (7, s0, b0, c0) 1 ((mu M (7, s0, b0, c0) 0 (M.1 (7, s1, b1, c1) 0)).1 (7, s1, b1, c1) 1)).1 (7, s1, b1, c1) 2)) (7, s0, b0, c0) 3 ((mu (mu (mu M (7, s0, b0, c0) 0 (M.1 (7, s1, b1, c1) 0)) (7, s0, b0, c0) 1 ((mu M (7, s0, b0, c0) 0 (M.1 (7, s1, b1, c1) 0)).1 (7, s1, b1, c1) 1)) (7, s0, b0, c0) 2 ((mu (mu M (7, s0, b0, c0) 0 (M.1 (7, s1, b1, c1) 0)) (7, s0, b0, c0) 1 ((mu M (7, s0, b0, c0) 0 (M.1 (7, s1, b1, c1) 0)).1 (7, s1, b1, c1) 1)).1 (7, s1, b1, c1) 2)).1 (7, s1, b1, c1) 3)) (7, s0, b0, c0) 4 ((mu (mu (mu (mu M (7, s0, b0, c0) 0 (M.1 (7, s1, b1, c1) 0)) (7, s0, b0, c0) 1 ((mu M (7, s0, b0, c0) 0 (M.1 (7, s1, b1, c1) 0)).1 (7, s1, b1, c1) 1)) (7, s0, b0, c0) 2 ((mu (mu M (7, s0, b0, c0) 0 (M.1 (7, s1, b1, c1) 0)) (7, s0, b0, c0) 1 ((mu M (7, s0, b0, c0) 0 (M.1 (7, s1, b1, c1) 0)).1 (7, s1, b1, c1) 1)).1 (7, s1, b1, c1) 2)) (7, s0, b0, c0) 3 ((mu (mu (mu M (7, s0, b0, c0) 0 (M.1 (7, s1, b1, c1) 0)) (7, s0, b0, c0) 1 ((mu M (7, s0, b0, c0) 0 (M.1 (7, s1, b1, c1) 0)).1 (7, s1, b1, c1) 1)) (7, s0, b0, c0) 2 ((mu (mu M (7, s0, b0, c0) 0 (M.1 (7, s1, b1, c1) 0)) (7, s0, b0, c0) 1 ((mu M (7, s0, b0, c0) 0 (M.1 (7, s1, b1, c1) 0)).1 (7, s1, b1, c1) 1)).1 (7, s1, b1, c1) 2)).1 (7, s1, b1, c1) 3)).1 (7, s1, b1, c1) 4)) (8, s0, b0, c0) (va_cpy ((mu (mu (mu (mu (mu M (7, s0, b0, c0) 0 (M.1 (7, s1, b1, c1) 0)) (7, s0, b0, c0) 1 ((mu M (7, s0, b0, c0) 0 (M.1 (7, s1, b1, c1) 0)).1 (7, s1, b1, c1) 1)) (7, s0, b0, c0) 2 ((mu (mu M (7, s0, b0, c0) 0 (M.1 (7, s1, b1, c1) 0)) (7, s0, b0, c0) 1 ((mu M (7, s0, b0, c0) 0 (M.1 (7, s1, b1, c1) 0)).1 (7, s1, b1, c1) 1)).1 (7, s1, b1, c1) 2)) (7, s0, b0, c0) 3 ((mu (mu (mu M (7, s0, b0, c0) 0 (M.1 (7, s1, b1, c1) 0)) (7, s0, b0, c0) 1 ((mu M (7, s0, b0, c0) 0 (M.1 (7, s1, b1, c1) 0)).1 (7, s1, b1, c1) 1)) (7, s0, b0, c0) 2 ((mu (mu M (7, s0, b0, c0) 0 (M.1 (7, s1, b1, c1) 0)) (7, s0, b0, c0) 1 ((mu M (7, s0, b0, c0) 0 (M.1 (7, s1, b1, c1) 0)).1 (7, s1, b1, c1) 1)).1 (7, s1, b1, c1) 2)).1 (7, s1, b1, c1) 3)) (7, s0, b0, c0) 4 ((mu (mu (mu (mu M (7, s0, b0, c0) 0 (M.1 (7, s1, b1, c1) 0)) (7, s0, b0, c0) 1 ((mu M (7, s0, b0, c0) 0 (M.1 (7, s1, b1, c1) 0)).1 (7, s1, b1, c1) 1)) (7, s0, b0, c0) 2 ((mu (mu M (7, s0, b0, c0) 0 (M.1 (7, s1, b1, c1) 0)) (7, s0, b0, c0) 1 ((mu M (7, s0, b0, c0) 0 (M.1 (7, s1, b1, c1) 0)).1 (7, s1, b1, c1) 1)).1 (7, s1, b1, c1) 2)) (7, s0, b0, c0) 3 ((mu (mu (mu M (7, s0, b0, c0) 0 (M.1 (7, s1, b1, c1) 0)) (7, s0, b0, c0) 1 ((mu M (7, s0, b0, c0) 0 (M.1 (7, s1, b1, c1) 0)).1 (7, s1, b1, c1) 1)) (7, s0, b0, c0) 2 ((mu (mu M (7, s0, b0, c0) 0 (M.1 (7, s1, b1, c1) 0)) (7, s0, b0, c0) 1 ((mu M (7, s0, b0, c0) 0 (M.1 (7, s1, b1, c1) 0)).1 (7, s1, b1, c1) 1)).1 (7, s1, b1, c1) 2)).1 (7, s1, b1, c1) 3)).1 (7, s1, b1, c1) 4)).1 (8, s1, b1, c1)) ((mu (mu (mu (mu (mu M (7, s0, b0, c0) 0 (M.1 (7, s1, b1, c1) 0)) (7, s0, b0, c0) 1 ((mu M (7, s0, b0, c0) 0 (M.1 (7, s1, b1, c1) 0)).1 (7, s1, b1, c1) 1)) (7, s0, b0, c0) 2 ((mu (mu M (7, s0, b0, c0) 0 (M.1 (7, s1, b1, c1) 0)) (7, s0, b0, c0) 1 ((mu M (7, s0, b0, c0) 0 (M.1 (7, s1, b1, c1) 0)).1 (7, s1, b1, c1) 1)).1 (7, s1, b1, c1) 2)) (7, s0, b0, c0) 3 ((mu (mu (mu M (7, s0, b0, c0) 0 (M.1 (7, s1, b1, c1) 0)) (7, s0, b0, c0) 1 ((mu M (7, s0, b0, c0) 0 (M.1 (7, s1, b1, c1) 0)).1 (7, s1, b1, c1) 1)) (7, s0, b0, c0) 2 ((mu (mu M (7, s0, b0, c0) 0 (M.1 (7, s1, b1, c1) 0)) (7, s0, b0, c0) 1 ((mu M (7, s0, b0, c0) 0 (M.1 (7, s1, b1, c1) 0)).1 (7, s1, b1, c1) 1)).1 (7, s1, b1, c1) 2)).1 (7, s1, b1, c1) 3)) (7, s0, b0, c0) 4 ((mu (mu (mu (mu M (7, s0, b0, c0) 0 (M.1 (7, s1, b1, c1) 0)) (7, s0, b0, c0) 1 ((mu M (7, s0, b0, c0) 0 (M.1 (7, s1, b1, c1) 0)).1 (7, s1, b1, c1) 1)) (7, s0, b0, c0) 2 ((mu (mu M (7, s0, b0, c0) 0 (M.1 (7, s1, b1, c1) 0)) (7, s0, b0, c0) 1 ((mu M (7, s0, b0, c0) 0 (M.1 (7, s1, b1, c1) 0)).1 (7, s1, b1, c1) 1)).1 (7, s1, b1, c1) 2)) (7, s0, b0, c0) 3 ((mu (mu (mu M (7, s0, b0, c0) 0 (M.1 (7, s1, b1, c1) 0)) (7, s0, b0, c0) 1 ((mu M (7, s0, b0, c0) 0 (M.1 (7, s1, b1, c1) 0)).1 (7, s1, b1, c1) 1)) (7, s0, b0, c0) 2 ((mu (mu M (7, s0, b0, c0) 0 (M.1 (7, s1, b1, c1) 0)) (7, s0, b0, c0) 1 ((mu M (7, s0, b0, c0) 0 (M.1 (7, s1, b1, c1) 0)).1 (7, s1, b1, c1) 1)).1 (7, s1, b1, c1) 2)).1 (7, s1, b1, c1) 3)).1 (7, s1, b1, c1) 4)).1 (8, s0, b0, c0)) 0 0 4)).1 (9, s1, b1, c1)) ((mr (mu (mu (mu (mu (mu M (7, s0, b0, c0) 0 (M.1 (7, s1, b1, c1) 0)) (7, s0, b0, c0) 1 ((mu M (7, s0, b0, c0) 0 (M.1 (7, s1, b1, c1) 0)).1 (7, s1, b1, c1) 1)) (7, s0, b0, c0) 2 ((mu (mu M (7, s0, b0, c0) 0 (M.1 (7, s1, b1, c1) 0)) (7, s0, b0, c0) 1 ((mu M (7, s0, b0, c0) 0 (M.1 (7, s1, b1, c1) 0)).1 (7, s1, b1, c1) 1)).1 (7, s1, b1, c1) 2)) (7, s0, b0, c0) 3 ((mu (mu (mu M (7, s0, b0, c0) 0 (M.1 (7, s1, b1, c1) 0)) (7, s0, b0, c0) 1 ((mu M (7, s0, b0, c0) 0 (M.1 (7, s1, b1, c1) 0)).1 (7, s1, b1, c1) 1)) (7, s0, b0, c0) 2 ((mu (mu M (7, s0, b0, c0) 0 (M.1 (7, s1, b1, c1) 0)) (7, s0, b0, c0) 1 ((mu M (7, s0, b0, c0) 0 (M.1 (7, s1, b1, c1) 0)).1 (7, s1, b1, c1) 1)).1 (7, s1, b1, c1) 2)).1 (7, s1, b1, c1) 3)) (7, s0, b0, c0) 4 ((mu (mu (mu (mu M (7, s0, b0, c0) 0 (M.1 (7, s1, b1, c1) 0)) (7, s0, b0, c0) 1 ((mu M (7, s0, b0, c0) 0 (M.1 (7, s1, b1, c1) 0)).1 (7, s1, b1, c1) 1)) (7, s0, b0, c0) 2 ((mu (mu M (7, s0, b0, c0) 0 (M.1 (7, s1, b1, c1) 0)) (7, s0, b0, c0) 1 ((mu M (7, s0, b0, c0) 0 (M.1 (7, s1, b1, c1) 0)).1 (7, s1, b1, c1) 1)).1 (7, s1, b1, c1) 2)) (7, s0, b0, c0) 3 ((mu (mu (mu M (7, s0, b0, c0) 0 (M.1 (7, s1, b1, c1) 0)) (7, s0, b0, c0) 1 ((mu M (7, s0, b0, c0) 0 (M.1 (7, s1, b1, c1) 0)).1 (7, s1, b1, c1) 1)) (7, s0, b0, c0) 2 ((mu (mu M (7, s0, b0, c0) 0 (M.1 (7, s1, b1, c1) 0)) (7, s0, b0, c0) 1 ((mu M (7, s0, b0, c0) 0 (M.1 (7, s1, b1, c1) 0)).1 (7, s1, b1, c1) 1)).1 (7, s1, b1, c1) 2)).1 (7, s1, b1, c1) 3)).1 (7, s1, b1, c1) 4)) (8, s0, b0, c0) (va_cpy ((mu (mu (mu (mu (mu M (7, s0, b0, c0) 0 (M.1 (7, s1, b1, c1) 0)) (7, s0, b0, c0) 1 ((mu M (7, s0, b0, c0) 0 (M.1 (7, s1, b1, c1) 0)).1 (7, s1, b1, c1) 1)) (7, s0, b0, c0) 2 ((mu (mu M (7, s0, b0, c0) 0 (M.1 (7, s1, b1, c1) 0)) (7, s0, b0, c0) 1 ((mu M (7, s0, b0, c0) 0 (M.1 (7, s1, b1, c1) 0)).1 (7, s1, b1, c1) 1)).1 (7, s1, b1, c1) 2)) (7, s0, b0, c0) 3 ((mu (mu (mu M (7, s0, b0, c0) 0 (M.1 (7, s1, b1, c1) 0)) (7, s0, b0, c0) 1 ((mu M (7, s0, b0, c0) 0 (M.1 (7, s1, b1, c1) 0)).1 (7, s1, b1, c1) 1)) (7, s0, b0, c0) 2 ((mu (mu M (7, s0, b0, c0) 0 (M.1 (7, s1, b1, c1) 0)) (7, s0, b0, c0) 1 ((mu M (7, s0, b0, c0) 0 (M.1 (7, s1, b1, c1) 0)).1 (7, s1, b1, c1) 1)).1 (7, s1, b1, c1) 2)).1 (7, s1, b1, c1) 3)) (7, s0, b0, c0) 4 ((mu (mu (mu (mu M (7, s0, b0, c0) 0 (M.1 (7, s1, b1, c1) 0)) (7, s0, b0, c0) 1 ((mu M (7, s0, b0, c0) 0 (M.1 (7, s1, b1, c1) 0)).1 (7, s1, b1, c1) 1)) (7, s0, b0, c0) 2 ((mu (mu M (7, s0, b0, c0) 0 (M.1 (7, s1, b1, c1) 0)) (7, s0, b0, c0) 1 ((mu M (7, s0, b0, c0) 0 (M.1 (7, s1, b1, c1) 0)).1 (7, s1, b1, c1) 1)).1 (7, s1, b1, c1) 2)) (7, s0, b0, c0) 3 ((mu (mu (mu M (7, s0, b0, c0) 0 (M.1 (7, s1, b1, c1) 0)) (7, s0, b0, c0) 1 ((mu M (7, s0, b0, c0) 0 (M.1 (7, s1, b1, c1) 0)).1 (7, s1, b1, c1) 1)) (7, s0, b0, c0) 2 ((mu (mu M (7, s0, b0, c0) 0 (M.1 (7, s1, b1, c1) 0)) (7, s0, b0, c0) 1 ((mu M (7, s0, b0, c0) 0 (M.1 (7, s1, b1, c1) 0)).1 (7, s1, b1, c1) 1)).1 (7, s1, b1, c1) 2)).1 (7, s1, b1, c1) 3)).1 (7, s1, b1, c1) 4)).1 (8, s1, b1, c1)) ((mu (mu (mu (mu (mu M (7, s0, b0, c0) 0 (M.1 (7, s1, b1, c1) 0)) (7, s0, b0, c0) 1 ((mu M (7, s0, b0, c0) 0 (M.1 (7, s1, b1, c1) 0)).1 (7, s1, b1, c1) 1)) (7, s0, b0, c0) 2 ((mu (mu M (7, s0, b0, c0) 0 (M.1 (7, s1, b1, c1) 0)) (7, s0, b0, c0) 1 ((mu M (7, s0, b0, c0) 0 (M.1 (7, s1, b1, c1) 0)).1 (7, s1, b1, c1) 1)).1 (7, s1, b1, c1) 2)) (7, s0, b0, c0) 3 ((mu (mu (mu M (7, s0, b0, c0) 0 (M.1 (7, s1, b1, c1) 0)) (7, s0, b0, c0) 1 ((mu M (7, s0, b0, c0) 0 (M.1 (7, s1, b1, c1) 0)).1 (7, s1, b1, c1) 1)) (7, s0, b0, c0) 2 ((mu (mu M (7, s0, b0, c0) 0 (M.1 (7, s1, b1, c1) 0)) (7, s0, b0, c0) 1 ((mu M (7, s0, b0, c0) 0 (M.1 (7, s1, b1, c1) 0)).1 (7, s1, b1, c1) 1)).1 (7, s1, b1, c1) 2)).1 (7, s1, b1, c1) 3)) (7, s0, b0, c0) 4 ((mu (mu (mu (mu M (7, s0, b0, c0) 0 (M.1 (7, s1, b1, c1) 0)) (7, s0, b0, c0) 1 ((mu M (7, s0, b0, c0) 0 (M.1 (7, s1, b1, c1) 0)).1 (7, s1, b1, c1) 1)) (7, s0, b0, c0) 2 ((mu (mu M (7, s0, b0, c0) 0 (M.1 (7, s1, b1, c1) 0)) (7, s0, b0, c0) 1 ((mu M (7, s0, b0, c0) 0 (M.1 (7, s1, b1, c1) 0)).1 (7, s1, b1, c1) 1)).1 (7, s1, b1, c1) 2)) (7, s0, b0, c0) 3 ((mu (mu (mu M (7, s0, b0, c0) 0 (M.1 (7, s1, b1, c1) 0)) (7, s0, b0, c0) 1 ((mu M (7, s0, b0, c0) 0 (M.1 (7, s1, b1, c1) 0)).1 (7, s1, b1, c1) 1)) (7, s0, b0, c0) 2 ((mu (mu M (7, s0, b0, c0) 0 (M.1 (7, s1, b1, c1) 0)) (7, s0, b0, c0) 1 ((mu M (7, s0, b0, c0) 0 (M.1 (7, s1, b1, c1) 0)).1 (7, s1, b1, c1) 1)).1 (7, s1, b1, c1) 2)).1 (7, s1, b1, c1) 3)).1 (7, s1, b1, c1) 4)).1 (8, s0, b0, c0)) 0 0 4)).1 (9, s0, b0, c0)) 0 0 4))))
section
variable {p : Program} {l : Launch} {e : Env} {s : State} {m : MethodId} {args : Array Value} {below : List Frame} {meth : Method} {c : Code} 
variable  {G : GG} {I : ix → Prop} {ad : ix → Nat}
set_option maxHeartbeats 4000000 in
set_option maxRecDepth 100000 in
theorem j_X6_copyFrom_0 {s0 : Nat} {b0 : Nat} {c0 : Nat} {s1 : Nat} {b1 : Nat} {c1 : Nat} (C : cx p s m args meth c cX6_copyFrom 2 none RX6 G) (hC : clo I) (h0 : I (7, s0, b0, c0)) (h1 : I (7, s1, b1, c1)) {Q : Mem → Prop} : ∀ (M : Mem) (H : Heap) (locs : List Loc) (ls : Array Slot), w_X6_copyFrom s0 b0 c0 s1 b1 c1 Q M → wd G I ad M H → va_S (fA I ad) s.heap H locs → lv_has ls 2 [(0, .ref (ad (7, s0, b0, c0))), (1, .ref (ad (7, s1, b1, c1)))] → W p l e rm_X6_copyFrom s m args below meth c H locs 0 0 (MQ below (qV G I ad Q) args s 0 0 (fA I ad)) (F0 m 0 ls []) := by
  have hx := C.1
  have hb := C.2.1
  have hown := C.2.2.2.1
  have hts := C.2.2.2.2.1
  intro M H locs ls hw hP hS hl
  unfold w_X6_copyFrom at hw
  refine lv_aload_n (pc := 0) hx hb dX6_copyFrom_0 rfl (lv_at hl 0 rfl) ?_
  refine lv_aload_n (pc := 1) hx hb dX6_copyFrom_1 rfl (lv_at hl 1 rfl) ?_
  refine gf_103 (pc := 2) C hP h1 dX6_copyFrom_2 ?_
  refine pf_103 (pc := 5) C hP hS h0 dX6_copyFrom_5 (fun H locs hP hS => ?_)
  refine lv_aload_n (pc := 8) hx hb dX6_copyFrom_8 rfl (lv_at hl 0 rfl) ?_
  refine lv_aload_n (pc := 9) hx hb dX6_copyFrom_9 rfl (lv_at hl 1 rfl) ?_
  refine gf_106 (pc := 10) C hP h1 dX6_copyFrom_10 ?_
  refine pf_106 (pc := 13) C hP hS h0 dX6_copyFrom_13 (fun H locs hP hS => ?_)
  refine lv_aload_n (pc := 16) hx hb dX6_copyFrom_16 rfl (lv_at hl 0 rfl) ?_
  refine lv_aload_n (pc := 17) hx hb dX6_copyFrom_17 rfl (lv_at hl 1 rfl) ?_
  refine gf_109 (pc := 18) C hP h1 dX6_copyFrom_18 ?_
  refine pf_109 (pc := 21) C hP hS h0 dX6_copyFrom_21 (fun H locs hP hS => ?_)
  refine lv_aload_n (pc := 24) hx hb dX6_copyFrom_24 rfl (lv_at hl 0 rfl) ?_
  refine lv_aload_n (pc := 25) hx hb dX6_copyFrom_25 rfl (lv_at hl 1 rfl) ?_
  refine gf_112 (pc := 26) C hP h1 dX6_copyFrom_26 ?_
  refine pf_112 (pc := 29) C hP hS h0 dX6_copyFrom_29 (fun H locs hP hS => ?_)
  refine lv_aload_n (pc := 32) hx hb dX6_copyFrom_32 rfl (lv_at hl 0 rfl) ?_
  refine lv_aload_n (pc := 33) hx hb dX6_copyFrom_33 rfl (lv_at hl 1 rfl) ?_
  refine gf_114 (pc := 34) C hP h1 dX6_copyFrom_34 ?_
  refine pf_114 (pc := 37) hw.1 C hP hS h0 dX6_copyFrom_37 (fun H locs hP hS => ?_)
  replace hw := hw.2
  refine lv_aload_n (pc := 40) hx hb dX6_copyFrom_40 rfl (lv_at hl 1 rfl) ?_
  refine gf_116 (pc := 41) C hP h1 dX6_copyFrom_41 ?_
  refine lv_iconst (pc := 44) (v := (0 : Int32)) hx hb dX6_copyFrom_44 (by decide) ?_
  refine lv_aload_n (pc := 45) hx hb dX6_copyFrom_45 rfl (lv_at hl 0 rfl) ?_
  refine gf_116 (pc := 46) C hP h0 dX6_copyFrom_46 ?_
  refine lv_iconst (pc := 49) (v := (0 : Int32)) hx hb dX6_copyFrom_49 (by decide) ?_
  refine lv_iconst (pc := 50) (v := (4 : Int32)) hx hb dX6_copyFrom_50 (by decide) ?_
  refine r_copy (pc := 51) (rest := []) (n0 := 4) (n1 := 4) (a := 0) (b := 0) (k := 4) C hl.1 hP hS (cl_7_5 hC h1) (cl_7_5 hC h0) (fun _ _ _ _ => rfl) (fun _ _ _ _ => rfl) mw_398 mw_372 mw_371 mw_67 (by decide) (by decide) (by decide) (by decide) (by decide) (by decide) (by decide) (by decide) (Nat.le_of_ble_eq_true rfl) (by decide +kernel) dX6_copyFrom_51 (fun H locs hP hS => ?_)
  refine lv_aload_n (pc := 54) hx hb dX6_copyFrom_54 rfl (lv_at hl 1 rfl) ?_
  refine gf_118 (pc := 55) C hP h1 dX6_copyFrom_55 ?_
  refine lv_iconst (pc := 58) (v := (0 : Int32)) hx hb dX6_copyFrom_58 (by decide) ?_
  refine lv_aload_n (pc := 59) hx hb dX6_copyFrom_59 rfl (lv_at hl 0 rfl) ?_
  refine gf_118 (pc := 60) C hP h0 dX6_copyFrom_60 ?_
  refine lv_iconst (pc := 63) (v := (0 : Int32)) hx hb dX6_copyFrom_63 (by decide) ?_
  refine lv_iconst (pc := 64) (v := (4 : Int32)) hx hb dX6_copyFrom_64 (by decide) ?_
  refine r_copy (pc := 65) (rest := []) (n0 := 4) (n1 := 4) (a := 0) (b := 0) (k := 4) C hl.1 hP hS (cl_7_6 hC h1) (cl_7_6 hC h0) (fun _ _ _ _ => rfl) (fun _ _ _ _ => rfl) mw_398 mw_372 mw_371 mw_67 (by decide) (by decide) (by decide) (by decide) (by decide) (by decide) (by decide) (by decide) (Nat.le_of_ble_eq_true rfl) (by decide +kernel) dX6_copyFrom_65 (fun H locs hP hS => ?_)
  exact r_vret (pc := 68) C hP hS hw dX6_copyFrom_68
end
theorem k_X6_copyFrom (l : Launch) (G : GG) {I : ix → Prop} {ad : ix → Nat} (hC : clo I) {s0 : Nat} {b0 : Nat} {c0 : Nat} {s1 : Nat} {b1 : Nat} {c1 : Nat} (h0 : I (7, s0, b0, c0)) (h1 : I (7, s1, b1, c1)) {Q : Mem → Prop} {M : Mem} (hw : w_X6_copyFrom s0 b0 c0 s1 b1 c1 Q M) : Met l yX6_copyFrom (wW yX6_copyFrom cX6_copyFrom 2 none) rm_X6_copyFrom (va_Pc [.ref (ad (7, s0, b0, c0)), .ref (ad (7, s1, b1, c1))] (fun U => wd G I ad M U.heap ∧ wK G U)) (qV G I ad Q) 0 0 (fA I ad) := met_of (by decide +kernel) (Nat.le_of_ble_eq_true rfl) (fun p e s m below meth c C hP hS ls hl => j_X6_copyFrom_0 C hC h0 h1 _ _ _ _ hw hP hS hl)
