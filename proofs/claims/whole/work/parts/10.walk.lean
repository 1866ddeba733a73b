section
variable {p : Program} {l : Launch} {e : Env} {s : State} {m : MethodId} {args : Array Value} {below : List Frame} {meth : Method} {c : Code} 
variable  {G : GG} {I : ix → Prop} {ad : ix → Nat}
set_option maxHeartbeats 4000000 in
set_option maxRecDepth 100000 in
theorem j_X6_placeOf_2 {s0 : Nat} {b0 : Nat} {c0 : Nat} {a1 : Int32} (C : cx p s m args meth c cX6_placeOf 3 (some .int) RX6 G) (hC : clo I) (h0 : I (7, s0, b0, c0)) {Q : Int32 → Mem → Prop} : ∀ (n : Nat), ∀ (x2 : Int32) (M : Mem) (H : Heap) (locs : List Loc) (ls : Array Slot), w_X6_placeOf_2 s0 b0 c0 a1 Q n x2 M → wd G I ad M H → va_S (fA I ad) s.heap H locs → lv_has ls 3 [(0, .ref (ad (7, s0, b0, c0))), (1, .int a1), (2, .int x2)] → W p l e rm_X6_placeOf s m args below meth c H locs 0 0 (MQ below (qI G I ad Q) args s 0 0 (fA I ad)) (F0 m 2 ls []) := by
  have hx := C.1
  have hb := C.2.1
  have hown := C.2.2.2.1
  have hts := C.2.2.2.2.1
  intro n
  induction n with
  | zero =>
    intro x2 M H locs ls hw hP hS hl
    rw [w_X6_placeOf_2] at hw
    exact hw.elim
  | succ n ih =>
    intro x2 M H locs ls hw hP hS hl
    rw [w_X6_placeOf_2] at hw
    refine lv_iload_n (pc := 2) hx hb dX6_placeOf_2 rfl (lv_at hl 2 rfl) ?_
    refine lv_aload_n (pc := 3) hx hb dX6_placeOf_3 rfl (lv_at hl 0 rfl) ?_
    refine gf_112 (pc := 4) C hP h0 dX6_placeOf_4 ?_
    refine lv_icmp_ge (pc := 7) (tgt := 28) hx hb dX6_placeOf_7 (by decide) (fun h => ?_) (fun h => ?_)
    · replace hw := if_t h hw
      refine lv_ldc (pc := 28) (own := RX6) (v := (-2000000 : Int32)) hx hb hown (hts _ mw_102) dX6_placeOf_28 ?_
      exact r_iret (pc := 30) C hP hS hw dX6_placeOf_30
    · replace hw := if_f h hw
      refine lv_aload_n (pc := 10) hx hb dX6_placeOf_10 rfl (lv_at hl 0 rfl) ?_
      refine gf_116 (pc := 11) C hP h0 dX6_placeOf_11 ?_
      refine lv_iload_n (pc := 14) hx hb dX6_placeOf_14 rfl (lv_at hl 2 rfl) ?_
      refine r_ialdK (pc := 15) (n := 4) (k := x2.toNatClampNeg) C hP (cl_7_5 hC h0) (fun _ _ _ _ => rfl) hw.1 rfl dX6_placeOf_15 ?_
      replace hw := hw.2
      refine lv_iload_n (pc := 16) hx hb dX6_placeOf_16 rfl (lv_at hl 1 rfl) ?_
      refine lv_icmp_ne (pc := 17) (tgt := 22) hx hb dX6_placeOf_17 (by decide) (fun h => ?_) (fun h => ?_)
      · replace hw := if_f h hw
        refine lv_iinc (pc := 22) (v := x2 + 1) (lv' := [(2, .int (x2 + 1)), (0, .ref (ad (7, s0, b0, c0))), (1, .int a1)]) hx hb dX6_placeOf_22 hl (k := 2) rfl rfl (by decide) rfl (fun ls hl => ?_)
        refine lv_goto (pc := 25) (tgt := 2) hx hb dX6_placeOf_25 (by decide) ?_
        exact ih (x2 + 1) M _ _ _ hw hP hS (lv_sub hl [1, 2, 0] rfl)
      · replace hw := if_t h hw
        refine lv_iload_n (pc := 20) hx hb dX6_placeOf_20 rfl (lv_at hl 2 rfl) ?_
        exact r_iret (pc := 21) C hP hS hw dX6_placeOf_21
set_option maxHeartbeats 4000000 in
set_option maxRecDepth 100000 in
theorem j_X6_placeOf_0 {s0 : Nat} {b0 : Nat} {c0 : Nat} {a1 : Int32} (C : cx p s m args meth c cX6_placeOf 3 (some .int) RX6 G) (hC : clo I) (h0 : I (7, s0, b0, c0)) {Q : Int32 → Mem → Prop} : ∀ (M : Mem) (H : Heap) (locs : List Loc) (ls : Array Slot), w_X6_placeOf s0 b0 c0 a1 Q M → wd G I ad M H → va_S (fA I ad) s.heap H locs → lv_has ls 3 [(0, .ref (ad (7, s0, b0, c0))), (1, .int a1)] → W p l e rm_X6_placeOf s m args below meth c H locs 0 0 (MQ below (qI G I ad Q) args s 0 0 (fA I ad)) (F0 m 0 ls []) := by
  have hx := C.1
  have hb := C.2.1
  have hown := C.2.2.2.1
  have hts := C.2.2.2.2.1
  intro M H locs ls hw hP hS hl
  unfold w_X6_placeOf at hw
  refine lv_iconst (pc := 0) (v := (0 : Int32)) hx hb dX6_placeOf_0 (by decide) ?_
  refine lv_istore_n (pc := 1) (lv' := [(2, .int (0 : Int32)), (0, .ref (ad (7, s0, b0, c0))), (1, .int a1)]) hx hb dX6_placeOf_1 rfl hl (by decide) rfl (fun ls hl => ?_)
  obtain ⟨n0, hw⟩ := hw
  exact j_X6_placeOf_2 C hC h0 n0 (0 : Int32) M _ _ _ hw hP hS (lv_sub hl [1, 2, 0] rfl)
end
theorem k_X6_placeOf (l : Launch) (G : GG) {I : ix → Prop} {ad : ix → Nat} (hC : clo I) {s0 : Nat} {b0 : Nat} {c0 : Nat} {a1 : Int32} (h0 : I (7, s0, b0, c0)) {Q : Int32 → Mem → Prop} {M : Mem} (hw : w_X6_placeOf s0 b0 c0 a1 Q M) : Met l yX6_placeOf (wW yX6_placeOf cX6_placeOf 3 (some .int)) rm_X6_placeOf (va_Pc [.ref (ad (7, s0, b0, c0)), .int a1] (fun U => wd G I ad M U.heap ∧ wK G U)) (qI G I ad Q) 0 0 (fA I ad) := met_of (by decide +kernel) (Nat.le_of_ble_eq_true rfl) (fun p e s m below meth c C hP hS ls hl => j_X6_placeOf_0 C hC h0 _ _ _ _ hw hP hS hl)
section
variable {p : Program} {l : Launch} {e : Env} {s : State} {m : MethodId} {args : Array Value} {below : List Frame} {meth : Method} {c : Code} 
variable  {G : GG} {I : ix → Prop} {ad : ix → Nat}
set_option maxHeartbeats 4000000 in
set_option maxRecDepth 100000 in
theorem j_X6_enlist_0 {s0 : Nat} {b0 : Nat} {c0 : Nat} {a1 : Int32} (C : cx p s m args meth c cX6_enlist 3 none RX6 G) (hC : clo I) (h0 : I (7, s0, b0, c0)) {Q : Mem → Prop} : ∀ (M : Mem) (H : Heap) (locs : List Loc) (ls : Array Slot), w_X6_enlist s0 b0 c0 a1 Q M → wd G I ad M H → va_S (fA I ad) s.heap H locs → lv_has ls 3 [(0, .ref (ad (7, s0, b0, c0))), (1, .int a1)] → W p l e rm_X6_enlist s m args below meth c H locs 0 0 (MQ below (qV G I ad Q) args s 0 0 (fA I ad)) (F0 m 0 ls []) := by
  have hx := C.1
  have hb := C.2.1
  have hown := C.2.2.2.1
  have hts := C.2.2.2.2.1
  intro M H locs ls hw hP hS hl
  unfold w_X6_enlist at hw
  refine lv_aload_n (pc := 0) hx hb dX6_enlist_0 rfl (lv_at hl 0 rfl) ?_
  refine lv_iload_n (pc := 1) hx hb dX6_enlist_1 rfl (lv_at hl 1 rfl) ?_
  refine r_cVI (pc := 2) (rest := []) (As := [.int a1]) C hl.1 hP hS (k_X6_placeOf l G hC h0 hw) h0 rfl rfl mw_350 mw_352 mw_2 mw_59 mw_353 ⟨rfl, rfl⟩ hd_X6_placeOf rfl rfl ⟨Nat.le_of_ble_eq_true rfl, Nat.le_of_ble_eq_true rfl⟩ (Nat.le_of_ble_eq_true rfl) ⟨Nat.zero_le _, Nat.zero_le _⟩ dX6_enlist_2 (fun r2 M2 H locs hw hP hS => ?_)
  refine lv_istore_n (pc := 5) (lv' := [(2, .int r2), (0, .ref (ad (7, s0, b0, c0))), (1, .int a1)]) hx hb dX6_enlist_5 rfl hl (by decide) rfl (fun ls hl => ?_)
  refine lv_iload_n (pc := 6) hx hb dX6_enlist_6 rfl (lv_at hl 0 rfl) ?_
  refine lv_ldc (pc := 7) (own := RX6) (v := (-2000000 : Int32)) hx hb hown (hts _ mw_102) dX6_enlist_7 ?_
  refine lv_icmp_eq (pc := 9) (tgt := 25) hx hb dX6_enlist_9 (by decide) (fun h => ?_) (fun h => ?_)
  · replace hw := if_t h hw
    refine lv_aload_n (pc := 25) hx hb dX6_enlist_25 rfl (lv_at hl 1 rfl) ?_
    refine gf_112 (pc := 26) C hP h0 dX6_enlist_26 ?_
    refine lv_iconst (pc := 29) (v := (4 : Int32)) hx hb dX6_enlist_29 (by decide) ?_
    refine lv_icmp_ge (pc := 30) (tgt := 66) hx hb dX6_enlist_30 (by decide) (fun h => ?_) (fun h => ?_)
    · replace hw := if_t h hw
      refine lv_aload_n (pc := 66) hx hb dX6_enlist_66 rfl (lv_at hl 1 rfl) ?_
      refine lv_iconst (pc := 67) (v := (1 : Int32)) hx hb dX6_enlist_67 (by decide) ?_
      refine pf_114 (pc := 68) (by decide) C hP hS h0 dX6_enlist_68 (fun H locs hP hS => ?_)
      refine lv_aload_n (pc := 71) hx hb dX6_enlist_71 rfl (lv_at hl 1 rfl) ?_
      refine lv_iconst (pc := 72) (v := (0 : Int32)) hx hb dX6_enlist_72 (by decide) ?_
      refine pf_112 (pc := 73) C hP hS h0 dX6_enlist_73 (fun H locs hP hS => ?_)
      exact r_vret (pc := 76) C hP hS hw dX6_enlist_76
    · replace hw := if_f h hw
      refine lv_aload_n (pc := 33) hx hb dX6_enlist_33 rfl (lv_at hl 1 rfl) ?_
      refine gf_116 (pc := 34) C hP h0 dX6_enlist_34 ?_
      refine lv_aload_n (pc := 37) hx hb dX6_enlist_37 rfl (lv_at hl 1 rfl) ?_
      refine gf_112 (pc := 38) C hP h0 dX6_enlist_38 ?_
      refine lv_iload_n (pc := 41) hx hb dX6_enlist_41 rfl (lv_at hl 2 rfl) ?_
      refine r_iastK (pc := 42) (n := 4) (k := (M2.1 (7, s0, b0, c0) 3).toNatClampNeg) C hP hS (cl_7_5 hC h0) (fun _ _ _ _ => rfl) hw.1 rfl dX6_enlist_42 (fun H locs hP hS => ?_)
      replace hw := hw.2
      refine lv_aload_n (pc := 43) hx hb dX6_enlist_43 rfl (lv_at hl 1 rfl) ?_
      refine gf_118 (pc := 44) C hP h0 dX6_enlist_44 ?_
      refine lv_aload_n (pc := 47) hx hb dX6_enlist_47 rfl (lv_at hl 1 rfl) ?_
      refine gf_112 (pc := 48) C hP h0 dX6_enlist_48 ?_
      refine lv_iconst (pc := 51) (v := (1 : Int32)) hx hb dX6_enlist_51 (by decide) ?_
      refine r_iastK (pc := 52) (n := 4) (k := ((mu M2 (8, s0, b0, c0) ((M2.1 (7, s0, b0, c0) 3).toNatClampNeg) a1).1 (7, s0, b0, c0) 3).toNatClampNeg) C hP hS (cl_7_6 hC h0) (fun _ _ _ _ => rfl) hw.1 rfl dX6_enlist_52 (fun H locs hP hS => ?_)
      replace hw := hw.2
      obtain ⟨M52, eM52⟩ : ∃ z : Mem, z = (mu (mu M2 (8, s0, b0, c0) ((M2.1 (7, s0, b0, c0) 3).toNatClampNeg) a1) (9, s0, b0, c0) (((mu M2 (8, s0, b0, c0) ((M2.1 (7, s0, b0, c0) 3).toNatClampNeg) a1).1 (7, s0, b0, c0) 3).toNatClampNeg) (1 : Int32)) := ⟨_, rfl⟩
      replace hP : wd G I ad M52 H := by rw [eM52]; exact hP
      replace hw := hw M52 eM52
      refine lv_aload_n (pc := 53) hx hb dX6_enlist_53 rfl (lv_at hl 1 rfl) ?_
      refine lv_dup (pc := 54) hx hb dX6_enlist_54 rfl ?_
      refine gf_112 (pc := 55) C hP h0 dX6_enlist_55 ?_
      refine lv_iconst (pc := 58) (v := (1 : Int32)) hx hb dX6_enlist_58 (by decide) ?_
      refine lv_iadd (pc := 59) hx hb dX6_enlist_59 ?_
      refine pf_112 (pc := 60) C hP hS h0 dX6_enlist_60 (fun H locs hP hS => ?_)
      refine lv_goto (pc := 63) (tgt := 76) hx hb dX6_enlist_63 (by decide) ?_
      exact r_vret (pc := 76) C hP hS hw dX6_enlist_76
  · replace hw := if_f h hw
    refine lv_aload_n (pc := 12) hx hb dX6_enlist_12 rfl (lv_at hl 1 rfl) ?_
    refine gf_118 (pc := 13) C hP h0 dX6_enlist_13 ?_
    refine lv_iload_n (pc := 16) hx hb dX6_enlist_16 rfl (lv_at hl 0 rfl) ?_
    refine lv_dup2_11 (pc := 17) hx hb dX6_enlist_17 rfl rfl ?_
    refine r_ialdK (pc := 18) (n := 4) (k := r2.toNatClampNeg) C hP (cl_7_6 hC h0) (fun _ _ _ _ => rfl) hw.1 rfl dX6_enlist_18 ?_
    replace hw := hw.2
    refine lv_iconst (pc := 19) (v := (1 : Int32)) hx hb dX6_enlist_19 (by decide) ?_
    refine lv_iadd (pc := 20) hx hb dX6_enlist_20 ?_
    refine r_iastK (pc := 21) (n := 4) (k := r2.toNatClampNeg) C hP hS (cl_7_6 hC h0) (fun _ _ _ _ => rfl) hw.1 rfl dX6_enlist_21 (fun H locs hP hS => ?_)
    replace hw := hw.2
    refine lv_goto (pc := 22) (tgt := 76) hx hb dX6_enlist_22 (by decide) ?_
    exact r_vret (pc := 76) C hP hS hw dX6_enlist_76
end
theorem k_X6_enlist (l : Launch) (G : GG) {I : ix → Prop} {ad : ix → Nat} (hC : clo I) {s0 : Nat} {b0 : Nat} {c0 : Nat} {a1 : Int32} (h0 : I (7, s0, b0, c0)) {Q : Mem → Prop} {M : Mem} (hw : w_X6_enlist s0 b0 c0 a1 Q M) : Met l yX6_enlist (wW yX6_enlist cX6_enlist 3 none) rm_X6_enlist (va_Pc [.ref (ad (7, s0, b0, c0)), .int a1] (fun U => wd G I ad M U.heap ∧ wK G U)) (qV G I ad Q) 0 0 (fA I ad) := met_of (by decide +kernel) (Nat.le_of_ble_eq_true rfl) (fun p e s m below meth c C hP hS ls hl => j_X6_enlist_0 C hC h0 _ _ _ _ hw hP hS hl)
section
variable {p : Program} {l : Launch} {e : Env} {s : State} {m : MethodId} {args : Array Value} {below : List Frame} {meth : Method} {c : Code} 
variable  {G : GG} {I : ix → Prop} {ad : ix → Nat}
set_option maxHeartbeats 4000000 in
set_option maxRecDepth 100000 in
theorem j_X6_come_0 {s0 : Nat} {b0 : Nat} {c0 : Nat} {a1 : Int32} (C : cx p s m args meth c cX6_come 2 none RX6 G) (hC : clo I) (h0 : I (7, s0, b0, c0)) {Q : Mem → Prop} : ∀ (M : Mem) (H : Heap) (locs : List Loc) (ls : Array Slot), w_X6_come s0 b0 c0 a1 Q M → wd G I ad M H → va_S (fA I ad) s.heap H locs → lv_has ls 2 [(0, .ref (ad (7, s0, b0, c0))), (1, .int a1)] → W p l e rm_X6_come s m args below meth c H locs 0 0 (MQ below (qV G I ad Q) args s 0 0 (fA I ad)) (F0 m 0 ls []) := by
  have hx := C.1
  have hb := C.2.1
  have hown := C.2.2.2.1
  have hts := C.2.2.2.2.1
  intro M H locs ls hw hP hS hl
  unfold w_X6_come at hw
  refine lv_iload_n (pc := 0) hx hb dX6_come_0 rfl (lv_at hl 1 rfl) ?_
  refine lv_sipush (pc := 1) (v := (1000 : Int32)) hx hb dX6_come_1 (by decide) ?_
  refine lv_icmp_ne (pc := 4) (tgt := 18) hx hb dX6_come_4 (by decide) (fun h => ?_) (fun h => ?_)
  · replace hw := if_f h hw
    refine lv_aload_n (pc := 18) hx hb dX6_come_18 rfl (lv_at hl 0 rfl) ?_
    refine lv_aload_n (pc := 19) hx hb dX6_come_19 rfl (lv_at hl 0 rfl) ?_
    refine gf_103 (pc := 20) C hP h0 dX6_come_20 ?_
    refine lv_ldc (pc := 23) (own := RX6) (v := (-2000000 : Int32)) hx hb hown (hts _ mw_102) dX6_come_23 ?_
    refine lv_icmp_ne (pc := 25) (tgt := 32) hx hb dX6_come_25 (by decide) (fun h => ?_) (fun h => ?_)
    · replace hw := if_f h hw
      refine lv_aload_n (pc := 32) hx hb dX6_come_32 rfl (lv_at hl 0 rfl) ?_
      refine gf_103 (pc := 33) C hP h0 dX6_come_33 ?_
      refine lv_iload_n (pc := 36) hx hb dX6_come_36 rfl (lv_at hl 1 rfl) ?_
      refine r_min (pc := 37) (rest := [.ref (ad (7, s0, b0, c0))]) C hl.1 mw_340 mw_341 mw_66 mw_342 (Nat.le_of_ble_eq_true rfl) (Nat.le_of_ble_eq_true rfl) (Nat.zero_le _) (Nat.zero_le _) dX6_come_37 ?_
      refine pf_103 (pc := 40) C hP hS h0 dX6_come_40 (fun H locs hP hS => ?_)
      refine lv_aload_n (pc := 43) hx hb dX6_come_43 rfl (lv_at hl 0 rfl) ?_
      refine lv_aload_n (pc := 44) hx hb dX6_come_44 rfl (lv_at hl 0 rfl) ?_
      refine gf_106 (pc := 45) C hP h0 dX6_come_45 ?_
      refine lv_ldc (pc := 48) (own := RX6) (v := (-2000000 : Int32)) hx hb hown (hts _ mw_102) dX6_come_48 ?_
      refine lv_icmp_ne (pc := 50) (tgt := 57) hx hb dX6_come_50 (by decide) (fun h => ?_) (fun h => ?_)
      · replace hw := if_f h hw
        refine lv_aload_n (pc := 57) hx hb dX6_come_57 rfl (lv_at hl 0 rfl) ?_
        refine gf_106 (pc := 58) C hP h0 dX6_come_58 ?_
        refine lv_iload_n (pc := 61) hx hb dX6_come_61 rfl (lv_at hl 1 rfl) ?_
        refine r_max (pc := 62) (rest := [.ref (ad (7, s0, b0, c0))]) C hl.1 mw_343 mw_344 mw_66 mw_345 (Nat.le_of_ble_eq_true rfl) (Nat.le_of_ble_eq_true rfl) (Nat.zero_le _) (Nat.zero_le _) dX6_come_62 ?_
        refine pf_106 (pc := 65) C hP hS h0 dX6_come_65 (fun H locs hP hS => ?_)
        obtain ⟨M65, eM65⟩ : ∃ z : Mem, z = (mu (mu M (7, s0, b0, c0) 0 (if a1 < (M.1 (7, s0, b0, c0) 0) then a1 else (M.1 (7, s0, b0, c0) 0))) (7, s0, b0, c0) 1 (if ((mu M (7, s0, b0, c0) 0 (if a1 < (M.1 (7, s0, b0, c0) 0) then a1 else (M.1 (7, s0, b0, c0) 0))).1 (7, s0, b0, c0) 1) < a1 then a1 else ((mu M (7, s0, b0, c0) 0 (if a1 < (M.1 (7, s0, b0, c0) 0) then a1 else (M.1 (7, s0, b0, c0) 0))).1 (7, s0, b0, c0) 1))) := ⟨_, rfl⟩
        replace hP : wd G I ad M65 H := by rw [eM65]; exact hP
        replace hw := hw M65 eM65
        refine lv_aload_n (pc := 68) hx hb dX6_come_68 rfl (lv_at hl 0 rfl) ?_
        refine gf_114 (pc := 69) C hP h0 dX6_come_69 ?_
        refine lv_if_ne (pc := 72) (tgt := 80) hx hb dX6_come_72 (by decide) (fun h => ?_) (fun h => ?_)
        · replace hw := if_f h hw
          exact r_vret (pc := 80) C hP hS hw dX6_come_80
        · replace hw := if_t h hw
          refine lv_aload_n (pc := 75) hx hb dX6_come_75 rfl (lv_at hl 0 rfl) ?_
          refine lv_iload_n (pc := 76) hx hb dX6_come_76 rfl (lv_at hl 1 rfl) ?_
          refine r_cVV (pc := 77) (rest := []) (As := [.int a1]) C hl.1 hP hS (k_X6_enlist l G hC h0 hw) h0 rfl rfl mw_346 mw_348 mw_1 mw_59 mw_349 ⟨rfl, rfl⟩ hd_X6_enlist rfl rfl ⟨Nat.le_of_ble_eq_true rfl, Nat.le_of_ble_eq_true rfl⟩ (Nat.le_of_ble_eq_true rfl) ⟨Nat.zero_le _, Nat.zero_le _⟩ dX6_come_77 (fun M77 H locs hw hP hS => ?_)
          exact r_vret (pc := 80) C hP hS hw dX6_come_80
      · replace hw := if_t h hw
        refine lv_iload_n (pc := 53) hx hb dX6_come_53 rfl (lv_at hl 1 rfl) ?_
        refine lv_goto (pc := 54) (tgt := 65) hx hb dX6_come_54 (by decide) ?_
        refine pf_106 (pc := 65) C hP hS h0 dX6_come_65 (fun H locs hP hS => ?_)
        refine lv_aload_n (pc := 68) hx hb dX6_come_68 rfl (lv_at hl 0 rfl) ?_
        refine gf_114 (pc := 69) C hP h0 dX6_come_69 ?_
        refine lv_if_ne (pc := 72) (tgt := 80) hx hb dX6_come_72 (by decide) (fun h => ?_) (fun h => ?_)
        · replace hw := if_f h hw
          exact r_vret (pc := 80) C hP hS hw dX6_come_80
        · replace hw := if_t h hw
          refine lv_aload_n (pc := 75) hx hb dX6_come_75 rfl (lv_at hl 0 rfl) ?_
          refine lv_iload_n (pc := 76) hx hb dX6_come_76 rfl (lv_at hl 1 rfl) ?_
          refine r_cVV (pc := 77) (rest := []) (As := [.int a1]) C hl.1 hP hS (k_X6_enlist l G hC h0 hw) h0 rfl rfl mw_346 mw_348 mw_1 mw_59 mw_349 ⟨rfl, rfl⟩ hd_X6_enlist rfl rfl ⟨Nat.le_of_ble_eq_true rfl, Nat.le_of_ble_eq_true rfl⟩ (Nat.le_of_ble_eq_true rfl) ⟨Nat.zero_le _, Nat.zero_le _⟩ dX6_come_77 (fun M77 H locs hw hP hS => ?_)
          exact r_vret (pc := 80) C hP hS hw dX6_come_80
    · replace hw := if_t h hw
      refine lv_iload_n (pc := 28) hx hb dX6_come_28 rfl (lv_at hl 1 rfl) ?_
      refine lv_goto (pc := 29) (tgt := 40) hx hb dX6_come_29 (by decide) ?_
      refine pf_103 (pc := 40) C hP hS h0 dX6_come_40 (fun H locs hP hS => ?_)
      refine lv_aload_n (pc := 43) hx hb dX6_come_43 rfl (lv_at hl 0 rfl) ?_
      refine lv_aload_n (pc := 44) hx hb dX6_come_44 rfl (lv_at hl 0 rfl) ?_
      refine gf_106 (pc := 45) C hP h0 dX6_come_45 ?_
      refine lv_ldc (pc := 48) (own := RX6) (v := (-2000000 : Int32)) hx hb hown (hts _ mw_102) dX6_come_48 ?_
      refine lv_icmp_ne (pc := 50) (tgt := 57) hx hb dX6_come_50 (by decide) (fun h => ?_) (fun h => ?_)
      · replace hw := if_f h hw
        refine lv_aload_n (pc := 57) hx hb dX6_come_57 rfl (lv_at hl 0 rfl) ?_
        refine gf_106 (pc := 58) C hP h0 dX6_come_58 ?_
        refine lv_iload_n (pc := 61) hx hb dX6_come_61 rfl (lv_at hl 1 rfl) ?_
        refine r_max (pc := 62) (rest := [.ref (ad (7, s0, b0, c0))]) C hl.1 mw_343 mw_344 mw_66 mw_345 (Nat.le_of_ble_eq_true rfl) (Nat.le_of_ble_eq_true rfl) (Nat.zero_le _) (Nat.zero_le _) dX6_come_62 ?_
        refine pf_106 (pc := 65) C hP hS h0 dX6_come_65 (fun H locs hP hS => ?_)
        obtain ⟨M65, eM65⟩ : ∃ z : Mem, z = (mu (mu M (7, s0, b0, c0) 0 a1) (7, s0, b0, c0) 1 (if ((mu M (7, s0, b0, c0) 0 a1).1 (7, s0, b0, c0) 1) < a1 then a1 else ((mu M (7, s0, b0, c0) 0 a1).1 (7, s0, b0, c0) 1))) := ⟨_, rfl⟩
        replace hP : wd G I ad M65 H := by rw [eM65]; exact hP
        replace hw := hw M65 eM65
        refine lv_aload_n (pc := 68) hx hb dX6_come_68 rfl (lv_at hl 0 rfl) ?_
        refine gf_114 (pc := 69) C hP h0 dX6_come_69 ?_
        refine lv_if_ne (pc := 72) (tgt := 80) hx hb dX6_come_72 (by decide) (fun h => ?_) (fun h => ?_)
        · replace hw := if_f h hw
          exact r_vret (pc := 80) C hP hS hw dX6_come_80
        · replace hw := if_t h hw
          refine lv_aload_n (pc := 75) hx hb dX6_come_75 rfl (lv_at hl 0 rfl) ?_
          refine lv_iload_n (pc := 76) hx hb dX6_come_76 rfl (lv_at hl 1 rfl) ?_
          refine r_cVV (pc := 77) (rest := []) (As := [.int a1]) C hl.1 hP hS (k_X6_enlist l G hC h0 hw) h0 rfl rfl mw_346 mw_348 mw_1 mw_59 mw_349 ⟨rfl, rfl⟩ hd_X6_enlist rfl rfl ⟨Nat.le_of_ble_eq_true rfl, Nat.le_of_ble_eq_true rfl⟩ (Nat.le_of_ble_eq_true rfl) ⟨Nat.zero_le _, Nat.zero_le _⟩ dX6_come_77 (fun M77 H locs hw hP hS => ?_)
          exact r_vret (pc := 80) C hP hS hw dX6_come_80
      · replace hw := if_t h hw
        refine lv_iload_n (pc := 53) hx hb dX6_come_53 rfl (lv_at hl 1 rfl) ?_
        refine lv_goto (pc := 54) (tgt := 65) hx hb dX6_come_54 (by decide) ?_
        refine pf_106 (pc := 65) C hP hS h0 dX6_come_65 (fun H locs hP hS => ?_)
        refine lv_aload_n (pc := 68) hx hb dX6_come_68 rfl (lv_at hl 0 rfl) ?_
        refine gf_114 (pc := 69) C hP h0 dX6_come_69 ?_
        refine lv_if_ne (pc := 72) (tgt := 80) hx hb dX6_come_72 (by decide) (fun h => ?_) (fun h => ?_)
        · replace hw := if_f h hw
          exact r_vret (pc := 80) C hP hS hw dX6_come_80
        · replace hw := if_t h hw
          refine lv_aload_n (pc := 75) hx hb dX6_come_75 rfl (lv_at hl 0 rfl) ?_
          refine lv_iload_n (pc := 76) hx hb dX6_come_76 rfl (lv_at hl 1 rfl) ?_
          refine r_cVV (pc := 77) (rest := []) (As := [.int a1]) C hl.1 hP hS (k_X6_enlist l G hC h0 hw) h0 rfl rfl mw_346 mw_348 mw_1 mw_59 mw_349 ⟨rfl, rfl⟩ hd_X6_enlist rfl rfl ⟨Nat.le_of_ble_eq_true rfl, Nat.le_of_ble_eq_true rfl⟩ (Nat.le_of_ble_eq_true rfl) ⟨Nat.zero_le _, Nat.zero_le _⟩ dX6_come_77 (fun M77 H locs hw hP hS => ?_)
          exact r_vret (pc := 80) C hP hS hw dX6_come_80
  · replace hw := if_t h hw
    refine lv_aload_n (pc := 7) hx hb dX6_come_7 rfl (lv_at hl 0 rfl) ?_
    refine lv_dup (pc := 8) hx hb dX6_come_8 rfl ?_
    refine gf_109 (pc := 9) C hP h0 dX6_come_9 ?_
    refine lv_iconst (pc := 12) (v := (1 : Int32)) hx hb dX6_come_12 (by decide) ?_
    refine lv_iadd (pc := 13) hx hb dX6_come_13 ?_
    refine pf_109 (pc := 14) C hP hS h0 dX6_come_14 (fun H locs hP hS => ?_)
    exact r_vret (pc := 17) C hP hS hw dX6_come_17
end
theorem k_X6_come (l : Launch) (G : GG) {I : ix → Prop} {ad : ix → Nat} (hC : clo I) {s0 : Nat} {b0 : Nat} {c0 : Nat} {a1 : Int32} (h0 : I (7, s0, b0, c0)) {Q : Mem → Prop} {M : Mem} (hw : w_X6_come s0 b0 c0 a1 Q M) : Met l yX6_come (wW yX6_come cX6_come 2 none) rm_X6_come (va_Pc [.ref (ad (7, s0, b0, c0)), .int a1] (fun U => wd G I ad M U.heap ∧ wK G U)) (qV G I ad Q) 0 0 (fA I ad) := met_of (by decide +kernel) (Nat.le_of_ble_eq_true rfl) (fun p e s m below meth c C hP hS ls hl => j_X6_come_0 C hC h0 _ _ _ _ hw hP hS hl)
section
variable {p : Program} {l : Launch} {e : Env} {s : State} {m : MethodId} {args : Array Value} {below : List Frame} {meth : Method} {c : Code} 
variable  {G : GG} {I : ix → Prop} {ad : ix → Nat}
set_option maxHeartbeats 4000000 in
set_option maxRecDepth 100000 in
theorem j_X0_append_47 {s0 : Nat} {b0 : Nat} {a1 : Int32} {a2 : Int32} {a3 : Int32} {a4 : Int32} (C : cx p s m args meth c cX0_append 7 (some .int) RX0 G) (hC : clo I) (h0 : I (3, s0, b0, 0)) {Q : Int32 → Mem → Prop} : ∀ (n : Nat), ∀ (x5_3 : Nat) (x6 : Int32) (M : Mem) (H : Heap) (locs : List Loc) (ls : Array Slot), w_X0_append_47 s0 b0 a1 a2 a3 a4 Q n x5_3 x6 M → wd G I ad M H → va_S (fA I ad) s.heap H locs → lv_has ls 7 [(0, .ref (ad (3, s0, b0, 0))), (5, .ref (ad (5, s0, b0, x5_3))), (6, .int x6)] → I (5, s0, b0, x5_3) → W p l e rm_X0_append s m args below meth c H locs 0 0 (MQ below (qI G I ad Q) args s 0 0 (fA I ad)) (F0 m 47 ls []) := by
  have hx := C.1
  have hb := C.2.1
  have hown := C.2.2.2.1
  have hts := C.2.2.2.2.1
  intro n
  induction n with
  | zero =>
    intro x5_3 x6 M H locs ls hw hP hS hl hx5
    rw [w_X0_append_47] at hw
    exact hw.elim
  | succ n ih =>
    intro x5_3 x6 M H locs ls hw hP hS hl hx5
    rw [w_X0_append_47] at hw
    refine lv_iload (pc := 47) hx hb dX0_append_47 (lv_at hl 2 rfl) ?_
    refine lv_iconst (pc := 49) (v := (4 : Int32)) hx hb dX0_append_49 (by decide) ?_
    refine lv_icmp_ge (pc := 50) (tgt := 74) hx hb dX0_append_50 (by decide) (fun h => ?_) (fun h => ?_)
    · replace hw := if_t h hw
      refine lv_aload_n (pc := 74) hx hb dX0_append_74 rfl (lv_at hl 0 rfl) ?_
      refine lv_dup (pc := 75) hx hb dX0_append_75 rfl ?_
      refine gf_136 (pc := 76) C hP h0 dX0_append_76 ?_
      refine lv_iconst (pc := 79) (v := (1 : Int32)) hx hb dX0_append_79 (by decide) ?_
      refine lv_iadd (pc := 80) hx hb dX0_append_80 ?_
      refine pf_136 (pc := 81) C hP hS h0 dX0_append_81 (fun H locs hP hS => ?_)
      refine lv_aload_n (pc := 84) hx hb dX0_append_84 rfl (lv_at hl 0 rfl) ?_
      refine gf_136 (pc := 85) C hP h0 dX0_append_85 ?_
      exact r_iret (pc := 88) C hP hS hw dX0_append_88
    · replace hw := if_f h hw
      refine lv_aload_n (pc := 53) hx hb dX0_append_53 rfl (lv_at hl 0 rfl) ?_
      refine gf_142 (pc := 54) C hP h0 dX0_append_54 ?_
      refine lv_iload (pc := 57) hx hb dX0_append_57 (lv_at hl 2 rfl) ?_
      refine r_aald6 (pc := 59) C hP (cl_3_2 hC h0) hw.1 dX0_append_59 ?_
      have hi59 := in_lt hw.1
      replace hw := hw.2
      refine lv_aload (pc := 60) hx hb dX0_append_60 (lv_at hl 1 rfl) ?_
      refine lv_iload (pc := 62) hx hb dX0_append_62 (lv_at hl 2 rfl) ?_
      refine r_ialdK (pc := 64) (n := 4) (k := x6.toNatClampNeg) C hP hx5 (fun _ _ _ _ => rfl) hw.1 rfl dX0_append_64 ?_
      replace hw := hw.2
      refine r_cVV (pc := 65) (rest := []) (As := [.int (M.1 (5, s0, b0, x5_3) x6.toNatClampNeg)]) C hl.1 hP hS (k_X6_come l G hC (cl_6_e hC (cl_3_2 hC h0) hi59) hw) (cl_6_e hC (cl_3_2 hC h0) hi59) rfl rfl mw_336 mw_337 mw_338 mw_59 mw_339 ⟨rfl, rfl⟩ hd_X6_come rfl rfl ⟨Nat.le_of_ble_eq_true rfl, Nat.le_of_ble_eq_true rfl⟩ (Nat.le_of_ble_eq_true rfl) ⟨Nat.zero_le _, Nat.zero_le _⟩ dX0_append_65 (fun M65 H locs hw hP hS => ?_)
      refine lv_iinc (pc := 68) (v := x6 + 1) (lv' := [(6, .int (x6 + 1)), (0, .ref (ad (3, s0, b0, 0))), (5, .ref (ad (5, s0, b0, x5_3)))]) hx hb dX0_append_68 hl (k := 2) rfl rfl (by decide) rfl (fun ls hl => ?_)
      refine lv_goto (pc := 71) (tgt := 47) hx hb dX0_append_71 (by decide) ?_
      exact ih x5_3 (x6 + 1) M65 _ _ _ hw hP hS (lv_sub hl [1, 2, 0] rfl) hx5
set_option maxHeartbeats 4000000 in
set_option maxRecDepth 100000 in
theorem j_X0_append_0 {s0 : Nat} {b0 : Nat} {a1 : Int32} {a2 : Int32} {a3 : Int32} {a4 : Int32} (C : cx p s m args meth c cX0_append 7 (some .int) RX0 G) (hC : clo I) (h0 : I (3, s0, b0, 0)) {Q : Int32 → Mem → Prop} : ∀ (M : Mem) (H : Heap) (locs : List Loc) (ls : Array Slot), w_X0_append s0 b0 a1 a2 a3 a4 Q M → wd G I ad M H → va_S (fA I ad) s.heap H locs → lv_has ls 7 [(0, .ref (ad (3, s0, b0, 0))), (1, .int a1), (2, .int a2), (3, .int a3), (4, .int a4)] → W p l e rm_X0_append s m args below meth c H locs 0 0 (MQ below (qI G I ad Q) args s 0 0 (fA I ad)) (F0 m 0 ls []) := by
  have hx := C.1
  have hb := C.2.1
  have hown := C.2.2.2.1
  have hts := C.2.2.2.2.1
  intro M H locs ls hw hP hS hl
  unfold w_X0_append at hw
  refine lv_aload_n (pc := 0) hx hb dX0_append_0 rfl (lv_at hl 0 rfl) ?_
  refine gf_136 (pc := 1) C hP h0 dX0_append_1 ?_
  refine lv_bipush (pc := 4) (v := (8 : Int32)) hx hb dX0_append_4 (by decide) ?_
  refine lv_icmp_lt (pc := 6) (tgt := 12) hx hb dX0_append_6 (by decide) (fun h => ?_) (fun h => ?_)
  · replace hw := if_t h hw
    refine lv_aload_n (pc := 12) hx hb dX0_append_12 rfl (lv_at hl 0 rfl) ?_
    refine gf_140 (pc := 13) C hP h0 dX0_append_13 ?_
    refine lv_aload_n (pc := 16) hx hb dX0_append_16 rfl (lv_at hl 0 rfl) ?_
    refine gf_136 (pc := 17) C hP h0 dX0_append_17 ?_
    refine r_aald4 (pc := 20) C hP (cl_3_1 hC h0) hw.1 dX0_append_20 ?_
    have hi20 := in_lt hw.1
    replace hw := hw.2
    refine lv_astore (pc := 21) (lv' := [(5, .ref (ad (5, s0, b0, (M.1 (3, s0, b0, 0) 0).toNatClampNeg))), (0, .ref (ad (3, s0, b0, 0))), (1, .int a1), (2, .int a2), (3, .int a3), (4, .int a4)]) hx hb dX0_append_21 hl (by decide) rfl (fun ls hl => ?_)
    refine lv_aload (pc := 23) hx hb dX0_append_23 (lv_at hl 0 rfl) ?_
    refine lv_iconst (pc := 25) (v := (0 : Int32)) hx hb dX0_append_25 (by decide) ?_
    refine lv_iload_n (pc := 26) hx hb dX0_append_26 rfl (lv_at hl 2 rfl) ?_
    refine r_iastK (pc := 27) (n := 4) (k := 0) C hP hS (cl_4_e hC (cl_3_1 hC h0) hi20) (fun _ _ _ _ => rfl) (vpc (by decide)) (by decide) dX0_append_27 (fun H locs hP hS => ?_)
    refine lv_aload (pc := 28) hx hb dX0_append_28 (lv_at hl 0 rfl) ?_
    refine lv_iconst (pc := 30) (v := (1 : Int32)) hx hb dX0_append_30 (by decide) ?_
    refine lv_iload_n (pc := 31) hx hb dX0_append_31 rfl (lv_at hl 3 rfl) ?_
    refine r_iastK (pc := 32) (n := 4) (k := 1) C hP hS (cl_4_e hC (cl_3_1 hC h0) hi20) (fun _ _ _ _ => rfl) (vpc (by decide)) (by decide) dX0_append_32 (fun H locs hP hS => ?_)
    refine lv_aload (pc := 33) hx hb dX0_append_33 (lv_at hl 0 rfl) ?_
    refine lv_iconst (pc := 35) (v := (2 : Int32)) hx hb dX0_append_35 (by decide) ?_
    refine lv_iload_n (pc := 36) hx hb dX0_append_36 rfl (lv_at hl 4 rfl) ?_
    refine r_iastK (pc := 37) (n := 4) (k := 2) C hP hS (cl_4_e hC (cl_3_1 hC h0) hi20) (fun _ _ _ _ => rfl) (vpc (by decide)) (by decide) dX0_append_37 (fun H locs hP hS => ?_)
    obtain ⟨M37, eM37⟩ : ∃ z : Mem, z = (mu (mu (mu M (5, s0, b0, (M.1 (3, s0, b0, 0) 0).toNatClampNeg) 0 a1) (5, s0, b0, (M.1 (3, s0, b0, 0) 0).toNatClampNeg) 1 a2) (5, s0, b0, (M.1 (3, s0, b0, 0) 0).toNatClampNeg) 2 a3) := ⟨_, rfl⟩
    replace hP : wd G I ad M37 H := by rw [eM37]; exact hP
    replace hw := hw M37 eM37
    refine lv_aload (pc := 38) hx hb dX0_append_38 (lv_at hl 0 rfl) ?_
    refine lv_iconst (pc := 40) (v := (3 : Int32)) hx hb dX0_append_40 (by decide) ?_
    refine lv_iload (pc := 41) hx hb dX0_append_41 (lv_at hl 5 rfl) ?_
    refine r_iastK (pc := 43) (n := 4) (k := 3) C hP hS (cl_4_e hC (cl_3_1 hC h0) hi20) (fun _ _ _ _ => rfl) (vpc (by decide)) (by decide) dX0_append_43 (fun H locs hP hS => ?_)
    refine lv_iconst (pc := 44) (v := (0 : Int32)) hx hb dX0_append_44 (by decide) ?_
    refine lv_istore (pc := 45) (lv' := [(6, .int (0 : Int32)), (5, .ref (ad (5, s0, b0, (M.1 (3, s0, b0, 0) 0).toNatClampNeg))), (0, .ref (ad (3, s0, b0, 0))), (1, .int a1), (2, .int a2), (3, .int a3), (4, .int a4)]) hx hb dX0_append_45 hl (by decide) rfl (fun ls hl => ?_)
    obtain ⟨n0, hw⟩ := hw
    exact j_X0_append_47 C hC h0 n0 ((M.1 (3, s0, b0, 0) 0).toNatClampNeg) (0 : Int32) (mu M37 (5, s0, b0, (M.1 (3, s0, b0, 0) 0).toNatClampNeg) 3 a4) _ _ _ hw hP hS (lv_sub hl [2, 1, 0] rfl) (cl_4_e hC (cl_3_1 hC h0) hi20)
  · replace hw := if_f h hw
    refine lv_bipush (pc := 9) (v := (-4 : Int32)) hx hb dX0_append_9 (by decide) ?_
    exact r_iret (pc := 11) C hP hS hw dX0_append_11
end
theorem k_X0_append (l : Launch) (G : GG) {I : ix → Prop} {ad : ix → Nat} (hC : clo I) {s0 : Nat} {b0 : Nat} {a1 : Int32} {a2 : Int32} {a3 : Int32} {a4 : Int32} (h0 : I (3, s0, b0, 0)) {Q : Int32 → Mem → Prop} {M : Mem} (hw : w_X0_append s0 b0 a1 a2 a3 a4 Q M) : Met l yX0_append (wW yX0_append cX0_append 7 (some .int)) rm_X0_append (va_Pc [.ref (ad (3, s0, b0, 0)), .int a1, .int a2, .int a3, .int a4] (fun U => wd G I ad M U.heap ∧ wK G U)) (qI G I ad Q) 0 0 (fA I ad) := met_of (by decide +kernel) (Nat.le_of_ble_eq_true rfl) (fun p e s m below meth c C hP hS ls hl => j_X0_append_0 C hC h0 _ _ _ _ hw hP hS hl)
section
variable {p : Program} {l : Launch} {e : Env} {s : State} {m : MethodId} {args : Array Value} {below : List Frame} {meth : Method} {c : Code} 
variable  {G : GG} {I : ix → Prop} {ad : ix → Nat}
set_option maxHeartbeats 4000000 in
set_option maxRecDepth 100000 in
theorem j_X6_leave_0 {s0 : Nat} {b0 : Nat} {c0 : Nat} {a1 : Int32} (C : cx p s m args meth c cX6_leave 3 none RX6 G) (hC : clo I) (h0 : I (7, s0, b0, c0)) {Q : Mem → Prop} : ∀ (M : Mem) (H : Heap) (locs : List Loc) (ls : Array Slot), w_X6_leave s0 b0 c0 a1 Q M → wd G I ad M H → va_S (fA I ad) s.heap H locs → lv_has ls 3 [(0, .ref (ad (7, s0, b0, c0))), (1, .int a1)] → W p l e rm_X6_leave s m args below meth c H locs 0 0 (MQ below (qV G I ad Q) args s 0 0 (fA I ad)) (F0 m 0 ls []) := by
  have hx := C.1
  have hb := C.2.1
  have hown := C.2.2.2.1
  have hts := C.2.2.2.2.1
  intro M H locs ls hw hP hS hl
  unfold w_X6_leave at hw
  refine lv_iload_n (pc := 0) hx hb dX6_leave_0 rfl (lv_at hl 1 rfl) ?_
  refine lv_sipush (pc := 1) (v := (1000 : Int32)) hx hb dX6_leave_1 (by decide) ?_
  refine lv_icmp_ne (pc := 4) (tgt := 18) hx hb dX6_leave_4 (by decide) (fun h => ?_) (fun h => ?_)
  · replace hw := if_f h hw
    refine lv_aload_n (pc := 18) hx hb dX6_leave_18 rfl (lv_at hl 0 rfl) ?_
    refine lv_iload_n (pc := 19) hx hb dX6_leave_19 rfl (lv_at hl 1 rfl) ?_
    refine r_cVI (pc := 20) (rest := []) (As := [.int a1]) C hl.1 hP hS (k_X6_placeOf l G hC h0 hw) h0 rfl rfl mw_350 mw_352 mw_2 mw_59 mw_353 ⟨rfl, rfl⟩ hd_X6_placeOf rfl rfl ⟨Nat.le_of_ble_eq_true rfl, Nat.le_of_ble_eq_true rfl⟩ (Nat.le_of_ble_eq_true rfl) ⟨Nat.zero_le _, Nat.zero_le _⟩ dX6_leave_20 (fun r20 M20 H locs hw hP hS => ?_)
    refine lv_istore_n (pc := 23) (lv' := [(2, .int r20), (0, .ref (ad (7, s0, b0, c0))), (1, .int a1)]) hx hb dX6_leave_23 rfl hl (by decide) rfl (fun ls hl => ?_)
    refine lv_iload_n (pc := 24) hx hb dX6_leave_24 rfl (lv_at hl 0 rfl) ?_
    refine lv_ldc (pc := 25) (own := RX6) (v := (-2000000 : Int32)) hx hb hown (hts _ mw_102) dX6_leave_25 ?_
    refine lv_icmp_eq (pc := 27) (tgt := 40) hx hb dX6_leave_27 (by decide) (fun h => ?_) (fun h => ?_)
    · replace hw := if_t h hw
      exact r_vret (pc := 40) C hP hS hw dX6_leave_40
    · replace hw := if_f h hw
      refine lv_aload_n (pc := 30) hx hb dX6_leave_30 rfl (lv_at hl 1 rfl) ?_
      refine gf_118 (pc := 31) C hP h0 dX6_leave_31 ?_
      refine lv_iload_n (pc := 34) hx hb dX6_leave_34 rfl (lv_at hl 0 rfl) ?_
      refine lv_dup2_11 (pc := 35) hx hb dX6_leave_35 rfl rfl ?_
      refine r_ialdK (pc := 36) (n := 4) (k := r20.toNatClampNeg) C hP (cl_7_6 hC h0) (fun _ _ _ _ => rfl) hw.1 rfl dX6_leave_36 ?_
      replace hw := hw.2
      refine lv_iconst (pc := 37) (v := (1 : Int32)) hx hb dX6_leave_37 (by decide) ?_
      refine lv_isub (pc := 38) hx hb dX6_leave_38 ?_
      refine r_iastK (pc := 39) (n := 4) (k := r20.toNatClampNeg) C hP hS (cl_7_6 hC h0) (fun _ _ _ _ => rfl) hw.1 rfl dX6_leave_39 (fun H locs hP hS => ?_)
      replace hw := hw.2
      exact r_vret (pc := 40) C hP hS hw dX6_leave_40
  · replace hw := if_t h hw
    refine lv_aload_n (pc := 7) hx hb dX6_leave_7 rfl (lv_at hl 0 rfl) ?_
    refine lv_dup (pc := 8) hx hb dX6_leave_8 rfl ?_
    refine gf_109 (pc := 9) C hP h0 dX6_leave_9 ?_
    refine lv_iconst (pc := 12) (v := (1 : Int32)) hx hb dX6_leave_12 (by decide) ?_
    refine lv_isub (pc := 13) hx hb dX6_leave_13 ?_
    refine pf_109 (pc := 14) C hP hS h0 dX6_leave_14 (fun H locs hP hS => ?_)
    exact r_vret (pc := 17) C hP hS hw dX6_leave_17
end
theorem k_X6_leave (l : Launch) (G : GG) {I : ix → Prop} {ad : ix → Nat} (hC : clo I) {s0 : Nat} {b0 : Nat} {c0 : Nat} {a1 : Int32} (h0 : I (7, s0, b0, c0)) {Q : Mem → Prop} {M : Mem} (hw : w_X6_leave s0 b0 c0 a1 Q M) : Met l yX6_leave (wW yX6_leave cX6_leave 3 none) rm_X6_leave (va_Pc [.ref (ad (7, s0, b0, c0)), .int a1] (fun U => wd G I ad M U.heap ∧ wK G U)) (qV G I ad Q) 0 0 (fA I ad) := met_of (by decide +kernel) (Nat.le_of_ble_eq_true rfl) (fun p e s m below meth c C hP hS ls hl => j_X6_leave_0 C hC h0 _ _ _ _ hw hP hS hl)
section
variable {p : Program} {l : Launch} {e : Env} {s : State} {m : MethodId} {args : Array Value} {below : List Frame} {meth : Method} {c : Code} 
variable  {G : GG} {I : ix → Prop} {ad : ix → Nat}
set_option maxHeartbeats 4000000 in
set_option maxRecDepth 100000 in
theorem j_X0_remove_34 {s0 : Nat} {b0 : Nat} {a1 : Int32} (C : cx p s m args meth c cX0_remove 3 (some .int) RX0 G) (hC : clo I) (h0 : I (3, s0, b0, 0)) {Q : Int32 → Mem → Prop} : ∀ (n : Nat), ∀ (x2 : Int32) (M : Mem) (H : Heap) (locs : List Loc) (ls : Array Slot), w_X0_remove_34 s0 b0 a1 Q n x2 M → wd G I ad M H → va_S (fA I ad) s.heap H locs → lv_has ls 3 [(0, .ref (ad (3, s0, b0, 0))), (2, .int x2)] → W p l e rm_X0_remove s m args below meth c H locs 0 0 (MQ below (qI G I ad Q) args s 0 0 (fA I ad)) (F0 m 34 ls []) := by
  have hx := C.1
  have hb := C.2.1
  have hown := C.2.2.2.1
  have hts := C.2.2.2.2.1
  intro n
  induction n with
  | zero =>
    intro x2 M H locs ls hw hP hS hl
    rw [w_X0_remove_34] at hw
    exact hw.elim
  | succ n ih =>
    intro x2 M H locs ls hw hP hS hl
    rw [w_X0_remove_34] at hw
    refine lv_iload_n (pc := 34) hx hb dX0_remove_34 rfl (lv_at hl 1 rfl) ?_
    refine lv_aload_n (pc := 35) hx hb dX0_remove_35 rfl (lv_at hl 0 rfl) ?_
    refine gf_136 (pc := 36) C hP h0 dX0_remove_36 ?_
    refine lv_icmp_ge (pc := 39) (tgt := 68) hx hb dX0_remove_39 (by decide) (fun h => ?_) (fun h => ?_)
    · replace hw := if_t h hw
      refine lv_aload_n (pc := 68) hx hb dX0_remove_68 rfl (lv_at hl 0 rfl) ?_
      refine lv_dup (pc := 69) hx hb dX0_remove_69 rfl ?_
      refine gf_136 (pc := 70) C hP h0 dX0_remove_70 ?_
      refine lv_iconst (pc := 73) (v := (1 : Int32)) hx hb dX0_remove_73 (by decide) ?_
      refine lv_isub (pc := 74) hx hb dX0_remove_74 ?_
      refine pf_136 (pc := 75) C hP hS h0 dX0_remove_75 (fun H locs hP hS => ?_)
      refine lv_aload_n (pc := 78) hx hb dX0_remove_78 rfl (lv_at hl 0 rfl) ?_
      refine gf_136 (pc := 79) C hP h0 dX0_remove_79 ?_
      exact r_iret (pc := 82) C hP hS hw dX0_remove_82
    · replace hw := if_f h hw
      refine lv_aload_n (pc := 42) hx hb dX0_remove_42 rfl (lv_at hl 0 rfl) ?_
      refine gf_140 (pc := 43) C hP h0 dX0_remove_43 ?_
      refine lv_iload_n (pc := 46) hx hb dX0_remove_46 rfl (lv_at hl 1 rfl) ?_
      refine r_aald4 (pc := 47) C hP (cl_3_1 hC h0) hw.1 dX0_remove_47 ?_
      have hi47 := in_lt hw.1
      replace hw := hw.2
      refine lv_iconst (pc := 48) (v := (0 : Int32)) hx hb dX0_remove_48 (by decide) ?_
      refine lv_aload_n (pc := 49) hx hb dX0_remove_49 rfl (lv_at hl 0 rfl) ?_
      refine gf_140 (pc := 50) C hP h0 dX0_remove_50 ?_
      refine lv_iload_n (pc := 53) hx hb dX0_remove_53 rfl (lv_at hl 1 rfl) ?_
      refine lv_iconst (pc := 54) (v := (1 : Int32)) hx hb dX0_remove_54 (by decide) ?_
      refine lv_isub (pc := 55) hx hb dX0_remove_55 ?_
      refine r_aald4 (pc := 56) C hP (cl_3_1 hC h0) hw.1 dX0_remove_56 ?_
      have hi56 := in_lt hw.1
      replace hw := hw.2
      refine lv_iconst (pc := 57) (v := (0 : Int32)) hx hb dX0_remove_57 (by decide) ?_
      refine lv_iconst (pc := 58) (v := (4 : Int32)) hx hb dX0_remove_58 (by decide) ?_
      refine r_copy (pc := 59) (rest := []) (n0 := 4) (n1 := 4) (a := 0) (b := 0) (k := 4) C hl.1 hP hS (cl_4_e hC (cl_3_1 hC h0) hi47) (cl_4_e hC (cl_3_1 hC h0) hi56) (fun _ _ _ _ => rfl) (fun _ _ _ _ => rfl) mw_370 mw_372 mw_371 mw_67 (by decide) (by decide) (by decide) (by decide) (by decide) (by decide) (by decide) (by decide) (Nat.le_of_ble_eq_true rfl) (by decide +kernel) dX0_remove_59 (fun H locs hP hS => ?_)
      obtain ⟨M59, eM59⟩ : ∃ z : Mem, z = (mr M (5, s0, b0, (x2 - (1 : Int32)).toNatClampNeg) (va_cpy (M.1 (5, s0, b0, x2.toNatClampNeg)) (M.1 (5, s0, b0, (x2 - (1 : Int32)).toNatClampNeg)) 0 0 4)) := ⟨_, rfl⟩
      replace hP : wd G I ad M59 H := by rw [eM59]; exact hP
      replace hw := hw M59 eM59
      refine lv_iinc (pc := 62) (v := x2 + 1) (lv' := [(2, .int (x2 + 1)), (0, .ref (ad (3, s0, b0, 0)))]) hx hb dX0_remove_62 hl (k := 1) rfl rfl (by decide) rfl (fun ls hl => ?_)
      refine lv_goto (pc := 65) (tgt := 34) hx hb dX0_remove_65 (by decide) ?_
      exact ih (x2 + 1) M59 _ _ _ hw hP hS (lv_sub hl [1, 0] rfl)
set_option maxHeartbeats 4000000 in
set_option maxRecDepth 100000 in
theorem j_X0_remove_2 {s0 : Nat} {b0 : Nat} {a1 : Int32} (C : cx p s m args meth c cX0_remove 3 (some .int) RX0 G) (hC : clo I) (h0 : I (3, s0, b0, 0)) {Q : Int32 → Mem → Prop} : ∀ (n : Nat), ∀ (x2 : Int32) (M : Mem) (H : Heap) (locs : List Loc) (ls : Array Slot), w_X0_remove_2 s0 b0 a1 Q n x2 M → wd G I ad M H → va_S (fA I ad) s.heap H locs → lv_has ls 3 [(0, .ref (ad (3, s0, b0, 0))), (1, .int a1), (2, .int x2)] → W p l e rm_X0_remove s m args below meth c H locs 0 0 (MQ below (qI G I ad Q) args s 0 0 (fA I ad)) (F0 m 2 ls []) := by
  have hx := C.1
  have hb := C.2.1
  have hown := C.2.2.2.1
  have hts := C.2.2.2.2.1
  intro n
  induction n with
  | zero =>
    intro x2 M H locs ls hw hP hS hl
    rw [w_X0_remove_2] at hw
    exact hw.elim
  | succ n ih =>
    intro x2 M H locs ls hw hP hS hl
    rw [w_X0_remove_2] at hw
    refine lv_iload_n (pc := 2) hx hb dX0_remove_2 rfl (lv_at hl 2 rfl) ?_
    refine lv_iconst (pc := 3) (v := (4 : Int32)) hx hb dX0_remove_3 (by decide) ?_
    refine lv_icmp_ge (pc := 4) (tgt := 30) hx hb dX0_remove_4 (by decide) (fun h => ?_) (fun h => ?_)
    · replace hw := if_t h hw
      refine lv_iload_n (pc := 30) hx hb dX0_remove_30 rfl (lv_at hl 1 rfl) ?_
      refine lv_iconst (pc := 31) (v := (1 : Int32)) hx hb dX0_remove_31 (by decide) ?_
      refine lv_iadd (pc := 32) hx hb dX0_remove_32 ?_
      refine lv_topi (fun x2_33 ex2_33 => ?_)
      replace hw := hw x2_33 ex2_33
      refine lv_istore_n (pc := 33) (lv' := [(2, .int x2_33), (0, .ref (ad (3, s0, b0, 0))), (1, .int a1)]) hx hb dX0_remove_33 rfl hl (by decide) rfl (fun ls hl => ?_)
      obtain ⟨n0, hw⟩ := hw
      exact j_X0_remove_34 C hC h0 n0 x2_33 M _ _ _ hw hP hS (lv_sub hl [1, 0] rfl)
    · replace hw := if_f h hw
      refine lv_aload_n (pc := 7) hx hb dX0_remove_7 rfl (lv_at hl 0 rfl) ?_
      refine gf_142 (pc := 8) C hP h0 dX0_remove_8 ?_
      refine lv_iload_n (pc := 11) hx hb dX0_remove_11 rfl (lv_at hl 2 rfl) ?_
      refine r_aald6 (pc := 12) C hP (cl_3_2 hC h0) hw.1 dX0_remove_12 ?_
      have hi12 := in_lt hw.1
      replace hw := hw.2
      refine lv_aload_n (pc := 13) hx hb dX0_remove_13 rfl (lv_at hl 0 rfl) ?_
      refine gf_140 (pc := 14) C hP h0 dX0_remove_14 ?_
      refine lv_iload_n (pc := 17) hx hb dX0_remove_17 rfl (lv_at hl 1 rfl) ?_
      refine r_aald4 (pc := 18) C hP (cl_3_1 hC h0) hw.1 dX0_remove_18 ?_
      have hi18 := in_lt hw.1
      replace hw := hw.2
      refine lv_iload_n (pc := 19) hx hb dX0_remove_19 rfl (lv_at hl 2 rfl) ?_
      refine r_ialdK (pc := 20) (n := 4) (k := x2.toNatClampNeg) C hP (cl_4_e hC (cl_3_1 hC h0) hi18) (fun _ _ _ _ => rfl) hw.1 rfl dX0_remove_20 ?_
      replace hw := hw.2
      refine r_cVV (pc := 21) (rest := []) (As := [.int (M.1 (5, s0, b0, a1.toNatClampNeg) x2.toNatClampNeg)]) C hl.1 hP hS (k_X6_leave l G hC (cl_6_e hC (cl_3_2 hC h0) hi12) hw) (cl_6_e hC (cl_3_2 hC h0) hi12) rfl rfl mw_366 mw_367 mw_368 mw_59 mw_369 ⟨rfl, rfl⟩ hd_X6_leave rfl rfl ⟨Nat.le_of_ble_eq_true rfl, Nat.le_of_ble_eq_true rfl⟩ (Nat.le_of_ble_eq_true rfl) ⟨Nat.zero_le _, Nat.zero_le _⟩ dX0_remove_21 (fun M21 H locs hw hP hS => ?_)
      refine lv_iinc (pc := 24) (v := x2 + 1) (lv' := [(2, .int (x2 + 1)), (0, .ref (ad (3, s0, b0, 0))), (1, .int a1)]) hx hb dX0_remove_24 hl (k := 2) rfl rfl (by decide) rfl (fun ls hl => ?_)
      refine lv_goto (pc := 27) (tgt := 2) hx hb dX0_remove_27 (by decide) ?_
      exact ih (x2 + 1) M21 _ _ _ hw hP hS (lv_sub hl [1, 2, 0] rfl)
set_option maxHeartbeats 4000000 in
set_option maxRecDepth 100000 in
theorem j_X0_remove_0 {s0 : Nat} {b0 : Nat} {a1 : Int32} (C : cx p s m args meth c cX0_remove 3 (some .int) RX0 G) (hC : clo I) (h0 : I (3, s0, b0, 0)) {Q : Int32 → Mem → Prop} : ∀ (M : Mem) (H : Heap) (locs : List Loc) (ls : Array Slot), w_X0_remove s0 b0 a1 Q M → wd G I ad M H → va_S (fA I ad) s.heap H locs → lv_has ls 3 [(0, .ref (ad (3, s0, b0, 0))), (1, .int a1)] → W p l e rm_X0_remove s m args below meth c H locs 0 0 (MQ below (qI G I ad Q) args s 0 0 (fA I ad)) (F0 m 0 ls []) := by
  have hx := C.1
  have hb := C.2.1
  have hown := C.2.2.2.1
  have hts := C.2.2.2.2.1
  intro M H locs ls hw hP hS hl
  unfold w_X0_remove at hw
  refine lv_iconst (pc := 0) (v := (0 : Int32)) hx hb dX0_remove_0 (by decide) ?_
  refine lv_istore_n (pc := 1) (lv' := [(2, .int (0 : Int32)), (0, .ref (ad (3, s0, b0, 0))), (1, .int a1)]) hx hb dX0_remove_1 rfl hl (by decide) rfl (fun ls hl => ?_)
  obtain ⟨n0, hw⟩ := hw
  exact j_X0_remove_2 C hC h0 n0 (0 : Int32) M _ _ _ hw hP hS (lv_sub hl [1, 2, 0] rfl)
end
theorem k_X0_remove (l : Launch) (G : GG) {I : ix → Prop} {ad : ix → Nat} (hC : clo I) {s0 : Nat} {b0 : Nat} {a1 : Int32} (h0 : I (3, s0, b0, 0)) {Q : Int32 → Mem → Prop} {M : Mem} (hw : w_X0_remove s0 b0 a1 Q M) : Met l yX0_remove (wW yX0_remove cX0_remove 3 (some .int)) rm_X0_remove (va_Pc [.ref (ad (3, s0, b0, 0)), .int a1] (fun U => wd G I ad M U.heap ∧ wK G U)) (qI G I ad Q) 0 0 (fA I ad) := met_of (by decide +kernel) (Nat.le_of_ble_eq_true rfl) (fun p e s m below meth c C hP hS ls hl => j_X0_remove_0 C hC h0 _ _ _ _ hw hP hS hl)
section
variable {p : Program} {l : Launch} {e : Env} {s : State} {m : MethodId} {args : Array Value} {below : List Frame} {meth : Method} {c : Code} 
variable  {G : GG} {I : ix → Prop} {ad : ix → Nat}
set_option maxHeartbeats 4000000 in
set_option maxRecDepth 100000 in
theorem j_X6_clear_0 {s0 : Nat} {b0 : Nat} {c0 : Nat} (C : cx p s m args meth c cX6_clear 1 none RX6 G) (hC : clo I) (h0 : I (7, s0, b0, c0)) {Q : Mem → Prop} : ∀ (M : Mem) (H : Heap) (locs : List Loc) (ls : Array Slot), w_X6_clear s0 b0 c0 Q M → wd G I ad M H → va_S (fA I ad) s.heap H locs → lv_has ls 1 [(0, .ref (ad (7, s0, b0, c0)))] → W p l e rm_X6_clear s m args below meth c H locs 0 0 (MQ below (qV G I ad Q) args s 0 0 (fA I ad)) (F0 m 0 ls []) := by
  have hx := C.1
  have hb := C.2.1
  have hown := C.2.2.2.1
  have hts := C.2.2.2.2.1
  intro M H locs ls hw hP hS hl
  unfold w_X6_clear at hw
  refine lv_aload_n (pc := 0) hx hb dX6_clear_0 rfl (lv_at hl 0 rfl) ?_
  refine lv_ldc (pc := 1) (own := RX6) (v := (-2000000 : Int32)) hx hb hown (hts _ mw_102) dX6_clear_1 ?_
  refine pf_103 (pc := 3) C hP hS h0 dX6_clear_3 (fun H locs hP hS => ?_)
  refine lv_aload_n (pc := 6) hx hb dX6_clear_6 rfl (lv_at hl 0 rfl) ?_
  refine lv_ldc (pc := 7) (own := RX6) (v := (-2000000 : Int32)) hx hb hown (hts _ mw_102) dX6_clear_7 ?_
  refine pf_106 (pc := 9) C hP hS h0 dX6_clear_9 (fun H locs hP hS => ?_)
  refine lv_aload_n (pc := 12) hx hb dX6_clear_12 rfl (lv_at hl 0 rfl) ?_
  refine lv_iconst (pc := 13) (v := (0 : Int32)) hx hb dX6_clear_13 (by decide) ?_
  refine pf_109 (pc := 14) C hP hS h0 dX6_clear_14 (fun H locs hP hS => ?_)
  refine lv_aload_n (pc := 17) hx hb dX6_clear_17 rfl (lv_at hl 0 rfl) ?_
  refine lv_iconst (pc := 18) (v := (0 : Int32)) hx hb dX6_clear_18 (by decide) ?_
  refine pf_112 (pc := 19) C hP hS h0 dX6_clear_19 (fun H locs hP hS => ?_)
  obtain ⟨M19, eM19⟩ : ∃ z : Mem, z = (mu (mu (mu (mu M (7, s0, b0, c0) 0 (-2000000 : Int32)) (7, s0, b0, c0) 1 (-2000000 : Int32)) (7, s0, b0, c0) 2 (0 : Int32)) (7, s0, b0, c0) 3 (0 : Int32)) := ⟨_, rfl⟩
  replace hP : wd G I ad M19 H := by rw [eM19]; exact hP
  replace hw := hw M19 eM19
  refine lv_aload_n (pc := 22) hx hb dX6_clear_22 rfl (lv_at hl 0 rfl) ?_
  refine lv_iconst (pc := 23) (v := (0 : Int32)) hx hb dX6_clear_23 (by decide) ?_
  refine pf_114 (pc := 24) (by decide) C hP hS h0 dX6_clear_24 (fun H locs hP hS => ?_)
  exact r_vret (pc := 27) C hP hS hw dX6_clear_27
end
theorem k_X6_clear (l : Launch) (G : GG) {I : ix → Prop} {ad : ix → Nat} (hC : clo I) {s0 : Nat} {b0 : Nat} {c0 : Nat} (h0 : I (7, s0, b0, c0)) {Q : Mem → Prop} {M : Mem} (hw : w_X6_clear s0 b0 c0 Q M) : Met l yX6_clear (wW yX6_clear cX6_clear 1 none) rm_X6_clear (va_Pc [.ref (ad (7, s0, b0, c0))] (fun U => wd G I ad M U.heap ∧ wK G U)) (qV G I ad Q) 0 0 (fA I ad) := met_of (by decide +kernel) (Nat.le_of_ble_eq_true rfl) (fun p e s m below meth c C hP hS ls hl => j_X6_clear_0 C hC h0 _ _ _ _ hw hP hS hl)
section
variable {p : Program} {l : Launch} {e : Env} {s : State} {m : MethodId} {args : Array Value} {below : List Frame} {meth : Method} {c : Code} 
variable  {G : GG} {I : ix → Prop} {ad : ix → Nat}
set_option maxHeartbeats 4000000 in
set_option maxRecDepth 100000 in
theorem j_X0_makeFresh_9 {s0 : Nat} {b0 : Nat} {a1 : Int32} (C : cx p s m args meth c cX0_makeFresh 3 none RX0 G) (hC : clo I) (h0 : I (3, s0, b0, 0)) {Q : Mem → Prop} : ∀ (n : Nat), ∀ (x2 : Int32) (M : Mem) (H : Heap) (locs : List Loc) (ls : Array Slot), w_X0_makeFresh_9 s0 b0 a1 Q n x2 M → wd G I ad M H → va_S (fA I ad) s.heap H locs → lv_has ls 3 [(0, .ref (ad (3, s0, b0, 0))), (1, .int a1), (2, .int x2)] → W p l e rm_X0_makeFresh s m args below meth c H locs 0 0 (MQ below (qV G I ad Q) args s 0 0 (fA I ad)) (F0 m 9 ls []) := by
  have hx := C.1
  have hb := C.2.1
  have hown := C.2.2.2.1
  have hts := C.2.2.2.2.1
  intro n
  induction n with
  | zero =>
    intro x2 M H locs ls hw hP hS hl
    rw [w_X0_makeFresh_9] at hw
    exact hw.elim
  | succ n ih =>
    intro x2 M H locs ls hw hP hS hl
    rw [w_X0_makeFresh_9] at hw
    refine lv_iload_n (pc := 9) hx hb dX0_makeFresh_9 rfl (lv_at hl 2 rfl) ?_
    refine lv_aload_n (pc := 10) hx hb dX0_makeFresh_10 rfl (lv_at hl 0 rfl) ?_
    refine gf_136 (pc := 11) C hP h0 dX0_makeFresh_11 ?_
    refine lv_icmp_ge (pc := 14) (tgt := 38) hx hb dX0_makeFresh_14 (by decide) (fun h => ?_) (fun h => ?_)
    · replace hw := if_t h hw
      exact r_vret (pc := 38) C hP hS hw dX0_makeFresh_38
    · replace hw := if_f h hw
      refine lv_aload_n (pc := 17) hx hb dX0_makeFresh_17 rfl (lv_at hl 0 rfl) ?_
      refine gf_145 (pc := 18) C hP h0 dX0_makeFresh_18 ?_
      refine lv_aload_n (pc := 21) hx hb dX0_makeFresh_21 rfl (lv_at hl 0 rfl) ?_
      refine gf_140 (pc := 22) C hP h0 dX0_makeFresh_22 ?_
      refine lv_iload_n (pc := 25) hx hb dX0_makeFresh_25 rfl (lv_at hl 2 rfl) ?_
      refine r_aald4 (pc := 26) C hP (cl_3_1 hC h0) hw.1 dX0_makeFresh_26 ?_
      have hi26 := in_lt hw.1
      replace hw := hw.2
      refine lv_iload_n (pc := 27) hx hb dX0_makeFresh_27 rfl (lv_at hl 1 rfl) ?_
      refine r_ialdK (pc := 28) (n := 4) (k := a1.toNatClampNeg) C hP (cl_4_e hC (cl_3_1 hC h0) hi26) (fun _ _ _ _ => rfl) hw.1 rfl dX0_makeFresh_28 ?_
      replace hw := hw.2
      refine r_cVV (pc := 29) (rest := []) (As := [.int (M.1 (5, s0, b0, x2.toNatClampNeg) a1.toNatClampNeg)]) C hl.1 hP hS (k_X6_come l G hC (cl_3_3 hC h0) hw) (cl_3_3 hC h0) rfl rfl mw_336 mw_337 mw_338 mw_59 mw_339 ⟨rfl, rfl⟩ hd_X6_come rfl rfl ⟨Nat.le_of_ble_eq_true rfl, Nat.le_of_ble_eq_true rfl⟩ (Nat.le_of_ble_eq_true rfl) ⟨Nat.zero_le _, Nat.zero_le _⟩ dX0_makeFresh_29 (fun M29 H locs hw hP hS => ?_)
      refine lv_iinc (pc := 32) (v := x2 + 1) (lv' := [(2, .int (x2 + 1)), (0, .ref (ad (3, s0, b0, 0))), (1, .int a1)]) hx hb dX0_makeFresh_32 hl (k := 2) rfl rfl (by decide) rfl (fun ls hl => ?_)
      refine lv_goto (pc := 35) (tgt := 9) hx hb dX0_makeFresh_35 (by decide) ?_
      exact ih (x2 + 1) M29 _ _ _ hw hP hS (lv_sub hl [1, 2, 0] rfl)
set_option maxHeartbeats 4000000 in
set_option maxRecDepth 100000 in
theorem j_X0_makeFresh_0 {s0 : Nat} {b0 : Nat} {a1 : Int32} (C : cx p s m args meth c cX0_makeFresh 3 none RX0 G) (hC : clo I) (h0 : I (3, s0, b0, 0)) {Q : Mem → Prop} : ∀ (M : Mem) (H : Heap) (locs : List Loc) (ls : Array Slot), w_X0_makeFresh s0 b0 a1 Q M → wd G I ad M H → va_S (fA I ad) s.heap H locs → lv_has ls 3 [(0, .ref (ad (3, s0, b0, 0))), (1, .int a1)] → W p l e rm_X0_makeFresh s m args below meth c H locs 0 0 (MQ below (qV G I ad Q) args s 0 0 (fA I ad)) (F0 m 0 ls []) := by
  have hx := C.1
  have hb := C.2.1
  have hown := C.2.2.2.1
  have hts := C.2.2.2.2.1
  intro M H locs ls hw hP hS hl
  unfold w_X0_makeFresh at hw
  refine lv_aload_n (pc := 0) hx hb dX0_makeFresh_0 rfl (lv_at hl 0 rfl) ?_
  refine gf_145 (pc := 1) C hP h0 dX0_makeFresh_1 ?_
  refine r_cVV (pc := 4) (rest := []) (As := []) C hl.1 hP hS (k_X6_clear l G hC (cl_3_3 hC h0) hw) (cl_3_3 hC h0) rfl rfl mw_389 mw_99 mw_100 mw_59 mw_101 ⟨rfl, rfl⟩ hd_X6_clear rfl rfl ⟨Nat.le_of_ble_eq_true rfl, Nat.le_of_ble_eq_true rfl⟩ (Nat.le_of_ble_eq_true rfl) ⟨Nat.zero_le _, Nat.zero_le _⟩ dX0_makeFresh_4 (fun M4 H locs hw hP hS => ?_)
  refine lv_iconst (pc := 7) (v := (0 : Int32)) hx hb dX0_makeFresh_7 (by decide) ?_
  refine lv_istore_n (pc := 8) (lv' := [(2, .int (0 : Int32)), (0, .ref (ad (3, s0, b0, 0))), (1, .int a1)]) hx hb dX0_makeFresh_8 rfl hl (by decide) rfl (fun ls hl => ?_)
  obtain ⟨n0, hw⟩ := hw
  exact j_X0_makeFresh_9 C hC h0 n0 (0 : Int32) M4 _ _ _ hw hP hS (lv_sub hl [1, 2, 0] rfl)
end
theorem k_X0_makeFresh (l : Launch) (G : GG) {I : ix → Prop} {ad : ix → Nat} (hC : clo I) {s0 : Nat} {b0 : Nat} {a1 : Int32} (h0 : I (3, s0, b0, 0)) {Q : Mem → Prop} {M : Mem} (hw : w_X0_makeFresh s0 b0 a1 Q M) : Met l yX0_makeFresh (wW yX0_makeFresh cX0_makeFresh 3 none) rm_X0_makeFresh (va_Pc [.ref (ad (3, s0, b0, 0)), .int a1] (fun U => wd G I ad M U.heap ∧ wK G U)) (qV G I ad Q) 0 0 (fA I ad) := met_of (by decide +kernel) (Nat.le_of_ble_eq_true rfl) (fun p e s m below meth c C hP hS ls hl => j_X0_makeFresh_0 C hC h0 _ _ _ _ hw hP hS hl)
section
variable {p : Program} {l : Launch} {e : Env} {s : State} {m : MethodId} {args : Array Value} {below : List Frame} {meth : Method} {c : Code} 
variable  {G : GG} {I : ix → Prop} {ad : ix → Nat}
set_option maxHeartbeats 4000000 in
set_option maxRecDepth 100000 in
theorem j_X6_differsFrom_50 {s0 : Nat} {b0 : Nat} {c0 : Nat} {s1 : Nat} {b1 : Nat} {c1 : Nat} (C : cx p s m args meth c cX6_differsFrom 3 (some .boolean) RX6 G) (hC : clo I) (h0 : I (7, s0, b0, c0)) (h1 : I (7, s1, b1, c1)) {Q : Int32 → Mem → Prop} : ∀ (n : Nat), ∀ (x2 : Int32) (M : Mem) (H : Heap) (locs : List Loc) (ls : Array Slot), w_X6_differsFrom_50 s0 b0 c0 s1 b1 c1 Q n x2 M → wd G I ad M H → va_S (fA I ad) s.heap H locs → lv_has ls 3 [(0, .ref (ad (7, s0, b0, c0))), (1, .ref (ad (7, s1, b1, c1))), (2, .int x2)] → W p l e rm_X6_differsFrom s m args below meth c H locs 0 0 (MQ below (qI G I ad Q) args s 0 0 (fA I ad)) (F0 m 50 ls []) := by
  have hx := C.1
  have hb := C.2.1
  have hown := C.2.2.2.1
  have hts := C.2.2.2.2.1
  intro n
  induction n with
  | zero =>
    intro x2 M H locs ls hw hP hS hl
    rw [w_X6_differsFrom_50] at hw
    exact hw.elim
  | succ n ih =>
    intro x2 M H locs ls hw hP hS hl
    rw [w_X6_differsFrom_50] at hw
    refine lv_iload_n (pc := 50) hx hb dX6_differsFrom_50 rfl (lv_at hl 2 rfl) ?_
    refine lv_aload_n (pc := 51) hx hb dX6_differsFrom_51 rfl (lv_at hl 1 rfl) ?_
    refine gf_112 (pc := 52) C hP h1 dX6_differsFrom_52 ?_
    refine lv_icmp_ge (pc := 55) (tgt := 81) hx hb dX6_differsFrom_55 (by decide) (fun h => ?_) (fun h => ?_)
    · replace hw := if_t h hw
      refine lv_iconst (pc := 81) (v := (0 : Int32)) hx hb dX6_differsFrom_81 (by decide) ?_
      exact r_zret (pc := 82) C hP hS (by decide) hw dX6_differsFrom_82
    · replace hw := if_f h hw
      refine lv_aload_n (pc := 58) hx hb dX6_differsFrom_58 rfl (lv_at hl 0 rfl) ?_
      refine lv_aload_n (pc := 59) hx hb dX6_differsFrom_59 rfl (lv_at hl 1 rfl) ?_
      refine gf_116 (pc := 60) C hP h1 dX6_differsFrom_60 ?_
      refine lv_iload_n (pc := 63) hx hb dX6_differsFrom_63 rfl (lv_at hl 2 rfl) ?_
      refine r_ialdK (pc := 64) (n := 4) (k := x2.toNatClampNeg) C hP (cl_7_5 hC h1) (fun _ _ _ _ => rfl) hw.1 rfl dX6_differsFrom_64 ?_
      replace hw := hw.2
      refine r_cVI (pc := 65) (rest := []) (As := [.int (M.1 (8, s1, b1, c1) x2.toNatClampNeg)]) C hl.1 hP hS (k_X6_placeOf l G hC h0 hw) h0 rfl rfl mw_350 mw_352 mw_2 mw_59 mw_353 ⟨rfl, rfl⟩ hd_X6_placeOf rfl rfl ⟨Nat.le_of_ble_eq_true rfl, Nat.le_of_ble_eq_true rfl⟩ (Nat.le_of_ble_eq_true rfl) ⟨Nat.zero_le _, Nat.zero_le _⟩ dX6_differsFrom_65 (fun r65 M65 H locs hw hP hS => ?_)
      refine lv_ldc (pc := 68) (own := RX6) (v := (-2000000 : Int32)) hx hb hown (hts _ mw_102) dX6_differsFrom_68 ?_
      refine lv_icmp_ne (pc := 70) (tgt := 75) hx hb dX6_differsFrom_70 (by decide) (fun h => ?_) (fun h => ?_)
      · replace hw := if_f h hw
        refine lv_iinc (pc := 75) (v := x2 + 1) (lv' := [(2, .int (x2 + 1)), (0, .ref (ad (7, s0, b0, c0))), (1, .ref (ad (7, s1, b1, c1)))]) hx hb dX6_differsFrom_75 hl (k := 2) rfl rfl (by decide) rfl (fun ls hl => ?_)
        refine lv_goto (pc := 78) (tgt := 50) hx hb dX6_differsFrom_78 (by decide) ?_
        exact ih (x2 + 1) M65 _ _ _ hw hP hS (lv_sub hl [1, 2, 0] rfl)
      · replace hw := if_t h hw
        refine lv_iconst (pc := 73) (v := (1 : Int32)) hx hb dX6_differsFrom_73 (by decide) ?_
        exact r_zret (pc := 74) C hP hS (by decide) hw dX6_differsFrom_74
set_option maxHeartbeats 4000000 in
set_option maxRecDepth 100000 in
theorem j_X6_differsFrom_0 {s0 : Nat} {b0 : Nat} {c0 : Nat} {s1 : Nat} {b1 : Nat} {c1 : Nat} (C : cx p s m args meth c cX6_differsFrom 3 (some .boolean) RX6 G) (hC : clo I) (h0 : I (7, s0, b0, c0)) (h1 : I (7, s1, b1, c1)) {Q : Int32 → Mem → Prop} : ∀ (M : Mem) (H : Heap) (locs : List Loc) (ls : Array Slot), w_X6_differsFrom s0 b0 c0 s1 b1 c1 Q M → wd G I ad M H → va_S (fA I ad) s.heap H locs → lv_has ls 3 [(0, .ref (ad (7, s0, b0, c0))), (1, .ref (ad (7, s1, b1, c1)))] → W p l e rm_X6_differsFrom s m args below meth c H locs 0 0 (MQ below (qI G I ad Q) args s 0 0 (fA I ad)) (F0 m 0 ls []) := by
  have hx := C.1
  have hb := C.2.1
  have hown := C.2.2.2.1
  have hts := C.2.2.2.2.1
  intro M H locs ls hw hP hS hl
  unfold w_X6_differsFrom at hw
  refine lv_aload_n (pc := 0) hx hb dX6_differsFrom_0 rfl (lv_at hl 0 rfl) ?_
  refine gf_103 (pc := 1) C hP h0 dX6_differsFrom_1 ?_
  refine lv_aload_n (pc := 4) hx hb dX6_differsFrom_4 rfl (lv_at hl 1 rfl) ?_
  refine gf_103 (pc := 5) C hP h1 dX6_differsFrom_5 ?_
  refine lv_icmp_ne (pc := 8) (tgt := 22) hx hb dX6_differsFrom_8 (by decide) (fun h => ?_) (fun h => ?_)
  · replace hw := if_f h hw
    refine lv_iconst (pc := 22) (v := (1 : Int32)) hx hb dX6_differsFrom_22 (by decide) ?_
    exact r_zret (pc := 23) C hP hS (by decide) hw dX6_differsFrom_23
  · replace hw := if_t h hw
    refine lv_aload_n (pc := 11) hx hb dX6_differsFrom_11 rfl (lv_at hl 0 rfl) ?_
    refine gf_106 (pc := 12) C hP h0 dX6_differsFrom_12 ?_
    refine lv_aload_n (pc := 15) hx hb dX6_differsFrom_15 rfl (lv_at hl 1 rfl) ?_
    refine gf_106 (pc := 16) C hP h1 dX6_differsFrom_16 ?_
    refine lv_icmp_eq (pc := 19) (tgt := 24) hx hb dX6_differsFrom_19 (by decide) (fun h => ?_) (fun h => ?_)
    · replace hw := if_t h hw
      refine lv_aload_n (pc := 24) hx hb dX6_differsFrom_24 rfl (lv_at hl 0 rfl) ?_
      refine gf_114 (pc := 25) C hP h0 dX6_differsFrom_25 ?_
      refine lv_aload_n (pc := 28) hx hb dX6_differsFrom_28 rfl (lv_at hl 1 rfl) ?_
      refine gf_114 (pc := 29) C hP h1 dX6_differsFrom_29 ?_
      refine lv_icmp_ne (pc := 32) (tgt := 46) hx hb dX6_differsFrom_32 (by decide) (fun h => ?_) (fun h => ?_)
      · replace hw := if_f h hw
        refine lv_iconst (pc := 46) (v := (1 : Int32)) hx hb dX6_differsFrom_46 (by decide) ?_
        exact r_zret (pc := 47) C hP hS (by decide) hw dX6_differsFrom_47
      · replace hw := if_t h hw
        refine lv_aload_n (pc := 35) hx hb dX6_differsFrom_35 rfl (lv_at hl 0 rfl) ?_
        refine gf_112 (pc := 36) C hP h0 dX6_differsFrom_36 ?_
        refine lv_aload_n (pc := 39) hx hb dX6_differsFrom_39 rfl (lv_at hl 1 rfl) ?_
        refine gf_112 (pc := 40) C hP h1 dX6_differsFrom_40 ?_
        refine lv_icmp_eq (pc := 43) (tgt := 48) hx hb dX6_differsFrom_43 (by decide) (fun h => ?_) (fun h => ?_)
        · replace hw := if_t h hw
          refine lv_iconst (pc := 48) (v := (0 : Int32)) hx hb dX6_differsFrom_48 (by decide) ?_
          refine lv_istore_n (pc := 49) (lv' := [(2, .int (0 : Int32)), (0, .ref (ad (7, s0, b0, c0))), (1, .ref (ad (7, s1, b1, c1)))]) hx hb dX6_differsFrom_49 rfl hl (by decide) rfl (fun ls hl => ?_)
          obtain ⟨n0, hw⟩ := hw
          exact j_X6_differsFrom_50 C hC h0 h1 n0 (0 : Int32) M _ _ _ hw hP hS (lv_sub hl [1, 2, 0] rfl)
        · replace hw := if_f h hw
          refine lv_iconst (pc := 46) (v := (1 : Int32)) hx hb dX6_differsFrom_46 (by decide) ?_
          exact r_zret (pc := 47) C hP hS (by decide) hw dX6_differsFrom_47
    · replace hw := if_f h hw
      refine lv_iconst (pc := 22) (v := (1 : Int32)) hx hb dX6_differsFrom_22 (by decide) ?_
      exact r_zret (pc := 23) C hP hS (by decide) hw dX6_differsFrom_23
end
theorem k_X6_differsFrom (l : Launch) (G : GG) {I : ix → Prop} {ad : ix → Nat} (hC : clo I) {s0 : Nat} {b0 : Nat} {c0 : Nat} {s1 : Nat} {b1 : Nat} {c1 : Nat} (h0 : I (7, s0, b0, c0)) (h1 : I (7, s1, b1, c1)) {Q : Int32 → Mem → Prop} {M : Mem} (hw : w_X6_differsFrom s0 b0 c0 s1 b1 c1 Q M) : Met l yX6_differsFrom (wW yX6_differsFrom cX6_differsFrom 3 (some .boolean)) rm_X6_differsFrom (va_Pc [.ref (ad (7, s0, b0, c0)), .ref (ad (7, s1, b1, c1))] (fun U => wd G I ad M U.heap ∧ wK G U)) (qI G I ad Q) 0 0 (fA I ad) := met_of (by decide +kernel) (Nat.le_of_ble_eq_true rfl) (fun p e s m below meth c C hP hS ls hl => j_X6_differsFrom_0 C hC h0 h1 _ _ _ _ hw hP hS hl)
section
variable {p : Program} {l : Launch} {e : Env} {s : State} {m : MethodId} {args : Array Value} {below : List Frame} {meth : Method} {c : Code} 
variable  {G : GG} {I : ix → Prop} {ad : ix → Nat}
set_option maxHeartbeats 4000000 in
set_option maxRecDepth 100000 in
theorem j_X0_isStale_0 {s0 : Nat} {b0 : Nat} {a1 : Int32} (C : cx p s m args meth c cX0_isStale 2 (some .boolean) RX0 G) (hC : clo I) (h0 : I (3, s0, b0, 0)) {Q : Int32 → Mem → Prop} : ∀ (M : Mem) (H : Heap) (locs : List Loc) (ls : Array Slot), w_X0_isStale s0 b0 a1 Q M → wd G I ad M H → va_S (fA I ad) s.heap H locs → lv_has ls 2 [(0, .ref (ad (3, s0, b0, 0))), (1, .int a1)] → W p l e rm_X0_isStale s m args below meth c H locs 0 0 (MQ below (qI G I ad Q) args s 0 0 (fA I ad)) (F0 m 0 ls []) := by
  have hx := C.1
  have hb := C.2.1
  have hown := C.2.2.2.1
  have hts := C.2.2.2.2.1
  intro M H locs ls hw hP hS hl
  unfold w_X0_isStale at hw
  refine lv_aload_n (pc := 0) hx hb dX0_isStale_0 rfl (lv_at hl 0 rfl) ?_
  refine lv_iload_n (pc := 1) hx hb dX0_isStale_1 rfl (lv_at hl 1 rfl) ?_
  refine r_cVV (pc := 2) (rest := []) (As := [.int a1]) C hl.1 hP hS (k_X0_makeFresh l G hC h0 hw) h0 rfl rfl mw_385 mw_387 mw_4 mw_58 mw_388 ⟨rfl, rfl⟩ hd_X0_makeFresh rfl rfl ⟨Nat.le_of_ble_eq_true rfl, Nat.le_of_ble_eq_true rfl⟩ (Nat.le_of_ble_eq_true rfl) ⟨Nat.zero_le _, Nat.zero_le _⟩ dX0_isStale_2 (fun M2 H locs hw hP hS => ?_)
  refine lv_aload_n (pc := 5) hx hb dX0_isStale_5 rfl (lv_at hl 0 rfl) ?_
  refine gf_142 (pc := 6) C hP h0 dX0_isStale_6 ?_
  refine lv_iload_n (pc := 9) hx hb dX0_isStale_9 rfl (lv_at hl 1 rfl) ?_
  refine r_aald6 (pc := 10) C hP (cl_3_2 hC h0) hw.1 dX0_isStale_10 ?_
  have hi10 := in_lt hw.1
  replace hw := hw.2
  refine lv_aload_n (pc := 11) hx hb dX0_isStale_11 rfl (lv_at hl 0 rfl) ?_
  refine gf_145 (pc := 12) C hP h0 dX0_isStale_12 ?_
  refine r_cVI (pc := 15) (rest := []) (As := [.ref (ad (7, s0, b0, 4))]) C hl.1 hP hS (k_X6_differsFrom l G hC (cl_6_e hC (cl_3_2 hC h0) hi10) (cl_3_3 hC h0) hw) (cl_6_e hC (cl_3_2 hC h0) hi10) rfl rfl mw_390 mw_391 mw_392 mw_59 mw_393 ⟨rfl, rfl⟩ hd_X6_differsFrom rfl rfl ⟨Nat.le_of_ble_eq_true rfl, Nat.le_of_ble_eq_true rfl⟩ (Nat.le_of_ble_eq_true rfl) ⟨Nat.zero_le _, Nat.zero_le _⟩ dX0_isStale_15 (fun r15 M15 H locs hw hP hS => ?_)
  exact r_zret (pc := 18) C hP hS hw.1 hw.2 dX0_isStale_18
end
theorem k_X0_isStale (l : Launch) (G : GG) {I : ix → Prop} {ad : ix → Nat} (hC : clo I) {s0 : Nat} {b0 : Nat} {a1 : Int32} (h0 : I (3, s0, b0, 0)) {Q : Int32 → Mem → Prop} {M : Mem} (hw : w_X0_isStale s0 b0 a1 Q M) : Met l yX0_isStale (wW yX0_isStale cX0_isStale 2 (some .boolean)) rm_X0_isStale (va_Pc [.ref (ad (3, s0, b0, 0)), .int a1] (fun U => wd G I ad M U.heap ∧ wK G U)) (qI G I ad Q) 0 0 (fA I ad) := met_of (by decide +kernel) (Nat.le_of_ble_eq_true rfl) (fun p e s m below meth c C hP hS ls hl => j_X0_isStale_0 C hC h0 _ _ _ _ hw hP hS hl)
section
variable {p : Program} {l : Launch} {e : Env} {s : State} {m : MethodId} {args : Array Value} {below : List Frame} {meth : Method} {c : Code} 
variable  {G : GG} {I : ix → Prop} {ad : ix → Nat}
set_option maxHeartbeats 4000000 in
set_option maxRecDepth 100000 in
theorem j_X6_copyFrom_0 {s0 : Nat} {b0 : Nat} {c0 : Nat} {s1 : Nat} {b1 : Nat} {c1 : Nat} (C : cx p s m args meth c cX6_copyFrom 2 none RX6 G) (hC : clo I) (h0 : I (7, s0, b0, c0)) (h1 : I (7, s1, b1, c1)) {Q : Mem → Prop} : ∀ (M : Mem) (H : Heap) (locs : List Loc) (ls : Array Slot), w_X6_copyFrom s0 b0 c0 s1 b1 c1 Q M → wd G I ad M H → va_S (fA I ad) s.heap H locs → lv_has ls 2 [(0, .ref (ad (7, s0, b0, c0))), (1, .ref (ad (7, s1, b1, c1)))] → W p l e rm_X6_copyFrom s m args below meth c H locs 0 0 (MQ below (qV G I ad Q) args s 0 0 (fA I ad)) (F0 m 0 ls []) := by
  have hx := C.1
  have hb := C.2.1
  have hown := C.2.2.2.1
  have hts := C.2.2.2.2.1
  intro M H locs ls hw hP hS hl
  unfold w_X6_copyFrom at hw
  refine lv_aload_n (pc := 0) hx hb dX6_copyFrom_0 rfl (lv_at hl 0 rfl) ?_
  refine lv_aload_n (pc := 1) hx hb dX6_copyFrom_1 rfl (lv_at hl 1 rfl) ?_
  refine gf_103 (pc := 2) C hP h1 dX6_copyFrom_2 ?_
  refine pf_103 (pc := 5) C hP hS h0 dX6_copyFrom_5 (fun H locs hP hS => ?_)
  refine lv_aload_n (pc := 8) hx hb dX6_copyFrom_8 rfl (lv_at hl 0 rfl) ?_
  refine lv_aload_n (pc := 9) hx hb dX6_copyFrom_9 rfl (lv_at hl 1 rfl) ?_
  refine gf_106 (pc := 10) C hP h1 dX6_copyFrom_10 ?_
  refine pf_106 (pc := 13) C hP hS h0 dX6_copyFrom_13 (fun H locs hP hS => ?_)
  obtain ⟨M13, eM13⟩ : ∃ z : Mem, z = (mu (mu M (7, s0, b0, c0) 0 (M.1 (7, s1, b1, c1) 0)) (7, s0, b0, c0) 1 ((mu M (7, s0, b0, c0) 0 (M.1 (7, s1, b1, c1) 0)).1 (7, s1, b1, c1) 1)) := ⟨_, rfl⟩
  replace hP : wd G I ad M13 H := by rw [eM13]; exact hP
  replace hw := hw M13 eM13
  refine lv_aload_n (pc := 16) hx hb dX6_copyFrom_16 rfl (lv_at hl 0 rfl) ?_
  refine lv_aload_n (pc := 17) hx hb dX6_copyFrom_17 rfl (lv_at hl 1 rfl) ?_
  refine gf_109 (pc := 18) C hP h1 dX6_copyFrom_18 ?_
  refine pf_109 (pc := 21) C hP hS h0 dX6_copyFrom_21 (fun H locs hP hS => ?_)
  refine lv_aload_n (pc := 24) hx hb dX6_copyFrom_24 rfl (lv_at hl 0 rfl) ?_
  refine lv_aload_n (pc := 25) hx hb dX6_copyFrom_25 rfl (lv_at hl 1 rfl) ?_
  refine gf_112 (pc := 26) C hP h1 dX6_copyFrom_26 ?_
  refine pf_112 (pc := 29) C hP hS h0 dX6_copyFrom_29 (fun H locs hP hS => ?_)
  obtain ⟨M29, eM29⟩ : ∃ z : Mem, z = (mu (mu M13 (7, s0, b0, c0) 2 (M13.1 (7, s1, b1, c1) 2)) (7, s0, b0, c0) 3 ((mu M13 (7, s0, b0, c0) 2 (M13.1 (7, s1, b1, c1) 2)).1 (7, s1, b1, c1) 3)) := ⟨_, rfl⟩
  replace hP : wd G I ad M29 H := by rw [eM29]; exact hP
  replace hw := hw M29 eM29
  refine lv_aload_n (pc := 32) hx hb dX6_copyFrom_32 rfl (lv_at hl 0 rfl) ?_
  refine lv_aload_n (pc := 33) hx hb dX6_copyFrom_33 rfl (lv_at hl 1 rfl) ?_
  refine gf_114 (pc := 34) C hP h1 dX6_copyFrom_34 ?_
  refine pf_114 (pc := 37) hw.1 C hP hS h0 dX6_copyFrom_37 (fun H locs hP hS => ?_)
  replace hw := hw.2
  refine lv_aload_n (pc := 40) hx hb dX6_copyFrom_40 rfl (lv_at hl 1 rfl) ?_
  refine gf_116 (pc := 41) C hP h1 dX6_copyFrom_41 ?_
  refine lv_iconst (pc := 44) (v := (0 : Int32)) hx hb dX6_copyFrom_44 (by decide) ?_
  refine lv_aload_n (pc := 45) hx hb dX6_copyFrom_45 rfl (lv_at hl 0 rfl) ?_
  refine gf_116 (pc := 46) C hP h0 dX6_copyFrom_46 ?_
  refine lv_iconst (pc := 49) (v := (0 : Int32)) hx hb dX6_copyFrom_49 (by decide) ?_
  refine lv_iconst (pc := 50) (v := (4 : Int32)) hx hb dX6_copyFrom_50 (by decide) ?_
  refine r_copy (pc := 51) (rest := []) (n0 := 4) (n1 := 4) (a := 0) (b := 0) (k := 4) C hl.1 hP hS (cl_7_5 hC h1) (cl_7_5 hC h0) (fun _ _ _ _ => rfl) (fun _ _ _ _ => rfl) mw_398 mw_372 mw_371 mw_67 (by decide) (by decide) (by decide) (by decide) (by decide) (by decide) (by decide) (by decide) (Nat.le_of_ble_eq_true rfl) (by decide +kernel) dX6_copyFrom_51 (fun H locs hP hS => ?_)
  obtain ⟨M51, eM51⟩ : ∃ z : Mem, z = (mr (mu M29 (7, s0, b0, c0) 4 (M29.1 (7, s1, b1, c1) 4)) (8, s0, b0, c0) (va_cpy ((mu M29 (7, s0, b0, c0) 4 (M29.1 (7, s1, b1, c1) 4)).1 (8, s1, b1, c1)) ((mu M29 (7, s0, b0, c0) 4 (M29.1 (7, s1, b1, c1) 4)).1 (8, s0, b0, c0)) 0 0 4)) := ⟨_, rfl⟩
  replace hP : wd G I ad M51 H := by rw [eM51]; exact hP
  replace hw := hw M51 eM51
  refine lv_aload_n (pc := 54) hx hb dX6_copyFrom_54 rfl (lv_at hl 1 rfl) ?_
  refine gf_118 (pc := 55) C hP h1 dX6_copyFrom_55 ?_
  refine lv_iconst (pc := 58) (v := (0 : Int32)) hx hb dX6_copyFrom_58 (by decide) ?_
  refine lv_aload_n (pc := 59) hx hb dX6_copyFrom_59 rfl (lv_at hl 0 rfl) ?_
  refine gf_118 (pc := 60) C hP h0 dX6_copyFrom_60 ?_
  refine lv_iconst (pc := 63) (v := (0 : Int32)) hx hb dX6_copyFrom_63 (by decide) ?_
  refine lv_iconst (pc := 64) (v := (4 : Int32)) hx hb dX6_copyFrom_64 (by decide) ?_
  refine r_copy (pc := 65) (rest := []) (n0 := 4) (n1 := 4) (a := 0) (b := 0) (k := 4) C hl.1 hP hS (cl_7_6 hC h1) (cl_7_6 hC h0) (fun _ _ _ _ => rfl) (fun _ _ _ _ => rfl) mw_398 mw_372 mw_371 mw_67 (by decide) (by decide) (by decide) (by decide) (by decide) (by decide) (by decide) (by decide) (Nat.le_of_ble_eq_true rfl) (by decide +kernel) dX6_copyFrom_65 (fun H locs hP hS => ?_)
  exact r_vret (pc := 68) C hP hS hw dX6_copyFrom_68
end
theorem k_X6_copyFrom (l : Launch) (G : GG) {I : ix → Prop} {ad : ix → Nat} (hC : clo I) {s0 : Nat} {b0 : Nat} {c0 : Nat} {s1 : Nat} {b1 : Nat} {c1 : Nat} (h0 : I (7, s0, b0, c0)) (h1 : I (7, s1, b1, c1)) {Q : Mem → Prop} {M : Mem} (hw : w_X6_copyFrom s0 b0 c0 s1 b1 c1 Q M) : Met l yX6_copyFrom (wW yX6_copyFrom cX6_copyFrom 2 none) rm_X6_copyFrom (va_Pc [.ref (ad (7, s0, b0, c0)), .ref (ad (7, s1, b1, c1))] (fun U => wd G I ad M U.heap ∧ wK G U)) (qV G I ad Q) 0 0 (fA I ad) := met_of (by decide +kernel) (Nat.le_of_ble_eq_true rfl) (fun p e s m below meth c C hP hS ls hl => j_X6_copyFrom_0 C hC h0 h1 _ _ _ _ hw hP hS hl)
section
variable {p : Program} {l : Launch} {e : Env} {s : State} {m : MethodId} {args : Array Value} {below : List Frame} {meth : Method} {c : Code} 
variable  {G : GG} {I : ix → Prop} {ad : ix → Nat}
set_option maxHeartbeats 4000000 in
set_option maxRecDepth 100000 in
theorem j_X0_renew_4 {s0 : Nat} {b0 : Nat} (C : cx p s m args meth c cX0_renew 3 (some .int) RX0 G) (hC : clo I) (h0 : I (3, s0, b0, 0)) {Q : Int32 → Mem → Prop} : ∀ (n : Nat), ∀ (x1 : Int32) (x2 : Int32) (M : Mem) (H : Heap) (locs : List Loc) (ls : Array Slot), w_X0_renew_4 s0 b0 Q n x1 x2 M → wd G I ad M H → va_S (fA I ad) s.heap H locs → lv_has ls 3 [(0, .ref (ad (3, s0, b0, 0))), (1, .int x1), (2, .int x2)] → W p l e rm_X0_renew s m args below meth c H locs 0 0 (MQ below (qI G I ad Q) args s 0 0 (fA I ad)) (F0 m 4 ls []) := by
  have hx := C.1
  have hb := C.2.1
  have hown := C.2.2.2.1
  have hts := C.2.2.2.2.1
  intro n
  induction n with
  | zero =>
    intro x1 x2 M H locs ls hw hP hS hl
    rw [w_X0_renew_4] at hw
    exact hw.elim
  | succ n ih =>
    intro x1 x2 M H locs ls hw hP hS hl
    rw [w_X0_renew_4] at hw
    refine lv_iload_n (pc := 4) hx hb dX0_renew_4 rfl (lv_at hl 2 rfl) ?_
    refine lv_iconst (pc := 5) (v := (4 : Int32)) hx hb dX0_renew_5 (by decide) ?_
    refine lv_icmp_ge (pc := 6) (tgt := 39) hx hb dX0_renew_6 (by decide) (fun h => ?_) (fun h => ?_)
    · replace hw := if_t h hw
      refine lv_iload_n (pc := 39) hx hb dX0_renew_39 rfl (lv_at hl 1 rfl) ?_
      exact r_iret (pc := 40) C hP hS hw dX0_renew_40
    · replace hw := if_f h hw
      refine lv_aload_n (pc := 9) hx hb dX0_renew_9 rfl (lv_at hl 0 rfl) ?_
      refine lv_iload_n (pc := 10) hx hb dX0_renew_10 rfl (lv_at hl 2 rfl) ?_
      refine r_cVI (pc := 11) (rest := []) (As := [.int x2]) C hl.1 hP hS (k_X0_isStale l G hC h0 hw) h0 rfl rfl mw_381 mw_382 mw_383 mw_58 mw_384 ⟨rfl, rfl⟩ hd_X0_isStale rfl rfl ⟨Nat.le_of_ble_eq_true rfl, Nat.le_of_ble_eq_true rfl⟩ (Nat.le_of_ble_eq_true rfl) ⟨Nat.zero_le _, Nat.zero_le _⟩ dX0_renew_11 (fun r11 M11 H locs hw hP hS => ?_)
      refine lv_if_eq (pc := 14) (tgt := 20) hx hb dX0_renew_14 (by decide) (fun h => ?_) (fun h => ?_)
      · replace hw := if_t h hw
        refine lv_aload_n (pc := 20) hx hb dX0_renew_20 rfl (lv_at hl 0 rfl) ?_
        refine gf_142 (pc := 21) C hP h0 dX0_renew_21 ?_
        refine lv_iload_n (pc := 24) hx hb dX0_renew_24 rfl (lv_at hl 2 rfl) ?_
        refine r_aald6 (pc := 25) C hP (cl_3_2 hC h0) hw.1 dX0_renew_25 ?_
        have hi25 := in_lt hw.1
        replace hw := hw.2
        refine lv_aload_n (pc := 26) hx hb dX0_renew_26 rfl (lv_at hl 0 rfl) ?_
        refine gf_145 (pc := 27) C hP h0 dX0_renew_27 ?_
        refine r_cVV (pc := 30) (rest := []) (As := [.ref (ad (7, s0, b0, 4))]) C hl.1 hP hS (k_X6_copyFrom l G hC (cl_6_e hC (cl_3_2 hC h0) hi25) (cl_3_3 hC h0) hw) (cl_6_e hC (cl_3_2 hC h0) hi25) rfl rfl mw_394 mw_395 mw_396 mw_59 mw_397 ⟨rfl, rfl⟩ hd_X6_copyFrom rfl rfl ⟨Nat.le_of_ble_eq_true rfl, Nat.le_of_ble_eq_true rfl⟩ (Nat.le_of_ble_eq_true rfl) ⟨Nat.zero_le _, Nat.zero_le _⟩ dX0_renew_30 (fun M30 H locs hw hP hS => ?_)
        refine lv_iinc (pc := 33) (v := x2 + 1) (lv' := [(2, .int (x2 + 1)), (0, .ref (ad (3, s0, b0, 0))), (1, .int x1)]) hx hb dX0_renew_33 hl (k := 2) rfl rfl (by decide) rfl (fun ls hl => ?_)
        refine lv_goto (pc := 36) (tgt := 4) hx hb dX0_renew_36 (by decide) ?_
        exact ih x1 (x2 + 1) M30 _ _ _ hw hP hS (lv_sub hl [1, 2, 0] rfl)
      · replace hw := if_f h hw
        refine lv_iinc (pc := 17) (v := x1 + 1) (lv' := [(1, .int (x1 + 1)), (0, .ref (ad (3, s0, b0, 0))), (2, .int x2)]) hx hb dX0_renew_17 hl (k := 1) rfl rfl (by decide) rfl (fun ls hl => ?_)
        refine lv_aload_n (pc := 20) hx hb dX0_renew_20 rfl (lv_at hl 1 rfl) ?_
        refine gf_142 (pc := 21) C hP h0 dX0_renew_21 ?_
        refine lv_iload_n (pc := 24) hx hb dX0_renew_24 rfl (lv_at hl 2 rfl) ?_
        refine r_aald6 (pc := 25) C hP (cl_3_2 hC h0) hw.1 dX0_renew_25 ?_
        have hi25 := in_lt hw.1
        replace hw := hw.2
        refine lv_aload_n (pc := 26) hx hb dX0_renew_26 rfl (lv_at hl 1 rfl) ?_
        refine gf_145 (pc := 27) C hP h0 dX0_renew_27 ?_
        refine r_cVV (pc := 30) (rest := []) (As := [.ref (ad (7, s0, b0, 4))]) C hl.1 hP hS (k_X6_copyFrom l G hC (cl_6_e hC (cl_3_2 hC h0) hi25) (cl_3_3 hC h0) hw) (cl_6_e hC (cl_3_2 hC h0) hi25) rfl rfl mw_394 mw_395 mw_396 mw_59 mw_397 ⟨rfl, rfl⟩ hd_X6_copyFrom rfl rfl ⟨Nat.le_of_ble_eq_true rfl, Nat.le_of_ble_eq_true rfl⟩ (Nat.le_of_ble_eq_true rfl) ⟨Nat.zero_le _, Nat.zero_le _⟩ dX0_renew_30 (fun M30 H locs hw hP hS => ?_)
        refine lv_iinc (pc := 33) (v := x2 + 1) (lv' := [(2, .int (x2 + 1)), (1, .int (x1 + 1)), (0, .ref (ad (3, s0, b0, 0)))]) hx hb dX0_renew_33 hl (k := 2) rfl rfl (by decide) rfl (fun ls hl => ?_)
        refine lv_goto (pc := 36) (tgt := 4) hx hb dX0_renew_36 (by decide) ?_
        exact ih (x1 + 1) (x2 + 1) M30 _ _ _ hw hP hS (lv_sub hl [2, 1, 0] rfl)
set_option maxHeartbeats 4000000 in
set_option maxRecDepth 100000 in
theorem j_X0_renew_0 {s0 : Nat} {b0 : Nat} (C : cx p s m args meth c cX0_renew 3 (some .int) RX0 G) (hC : clo I) (h0 : I (3, s0, b0, 0)) {Q : Int32 → Mem → Prop} : ∀ (M : Mem) (H : Heap) (locs : List Loc) (ls : Array Slot), w_X0_renew s0 b0 Q M → wd G I ad M H → va_S (fA I ad) s.heap H locs → lv_has ls 3 [(0, .ref (ad (3, s0, b0, 0)))] → W p l e rm_X0_renew s m args below meth c H locs 0 0 (MQ below (qI G I ad Q) args s 0 0 (fA I ad)) (F0 m 0 ls []) := by
  have hx := C.1
  have hb := C.2.1
  have hown := C.2.2.2.1
  have hts := C.2.2.2.2.1
  intro M H locs ls hw hP hS hl
  unfold w_X0_renew at hw
  refine lv_iconst (pc := 0) (v := (0 : Int32)) hx hb dX0_renew_0 (by decide) ?_
  refine lv_istore_n (pc := 1) (lv' := [(1, .int (0 : Int32)), (0, .ref (ad (3, s0, b0, 0)))]) hx hb dX0_renew_1 rfl hl (by decide) rfl (fun ls hl => ?_)
  refine lv_iconst (pc := 2) (v := (0 : Int32)) hx hb dX0_renew_2 (by decide) ?_
  refine lv_istore_n (pc := 3) (lv' := [(2, .int (0 : Int32)), (1, .int (0 : Int32)), (0, .ref (ad (3, s0, b0, 0)))]) hx hb dX0_renew_3 rfl hl (by decide) rfl (fun ls hl => ?_)
  obtain ⟨n0, hw⟩ := hw
  exact j_X0_renew_4 C hC h0 n0 (0 : Int32) (0 : Int32) M _ _ _ hw hP hS (lv_sub hl [2, 1, 0] rfl)
end
theorem k_X0_renew (l : Launch) (G : GG) {I : ix → Prop} {ad : ix → Nat} (hC : clo I) {s0 : Nat} {b0 : Nat} (h0 : I (3, s0, b0, 0)) {Q : Int32 → Mem → Prop} {M : Mem} (hw : w_X0_renew s0 b0 Q M) : Met l yX0_renew (wW yX0_renew cX0_renew 3 (some .int)) rm_X0_renew (va_Pc [.ref (ad (3, s0, b0, 0))] (fun U => wd G I ad M U.heap ∧ wK G U)) (qI G I ad Q) 0 0 (fA I ad) := met_of (by decide +kernel) (Nat.le_of_ble_eq_true rfl) (fun p e s m below meth c C hP hS ls hl => j_X0_renew_0 C hC h0 _ _ _ _ hw hP hS hl)
section
variable {p : Program} {l : Launch} {e : Env} {s : State} {m : MethodId} {args : Array Value} {below : List Frame} {meth : Method} {c : Code} 
variable  {G : GG} {I : ix → Prop} {ad : ix → Nat}
set_option maxHeartbeats 4000000 in
set_option maxRecDepth 100000 in
theorem j_X0_copyFrom_42 {s0 : Nat} {b0 : Nat} {s1 : Nat} {b1 : Nat} (C : cx p s m args meth c cX0_copyFrom 3 none RX0 G) (hC : clo I) (h0 : I (3, s0, b0, 0)) (h1 : I (3, s1, b1, 0)) {Q : Mem → Prop} : ∀ (n : Nat), ∀ (x2 : Int32) (M : Mem) (H : Heap) (locs : List Loc) (ls : Array Slot), w_X0_copyFrom_42 s0 b0 s1 b1 Q n x2 M → wd G I ad M H → va_S (fA I ad) s.heap H locs → lv_has ls 3 [(0, .ref (ad (3, s0, b0, 0))), (1, .ref (ad (3, s1, b1, 0))), (2, .int x2)] → W p l e rm_X0_copyFrom s m args below meth c H locs 0 0 (MQ below (qV G I ad Q) args s 0 0 (fA I ad)) (F0 m 42 ls []) := by
  have hx := C.1
  have hb := C.2.1
  have hown := C.2.2.2.1
  have hts := C.2.2.2.2.1
  intro n
  induction n with
  | zero =>
    intro x2 M H locs ls hw hP hS hl
    rw [w_X0_copyFrom_42] at hw
    exact hw.elim
  | succ n ih =>
    intro x2 M H locs ls hw hP hS hl
    rw [w_X0_copyFrom_42] at hw
    refine lv_iload_n (pc := 42) hx hb dX0_copyFrom_42 rfl (lv_at hl 2 rfl) ?_
    refine lv_iconst (pc := 43) (v := (4 : Int32)) hx hb dX0_copyFrom_43 (by decide) ?_
    refine lv_icmp_ge (pc := 44) (tgt := 68) hx hb dX0_copyFrom_44 (by decide) (fun h => ?_) (fun h => ?_)
    · replace hw := if_t h hw
      exact r_vret (pc := 68) C hP hS hw dX0_copyFrom_68
    · replace hw := if_f h hw
      refine lv_aload_n (pc := 47) hx hb dX0_copyFrom_47 rfl (lv_at hl 0 rfl) ?_
      refine gf_142 (pc := 48) C hP h0 dX0_copyFrom_48 ?_
      refine lv_iload_n (pc := 51) hx hb dX0_copyFrom_51 rfl (lv_at hl 2 rfl) ?_
      refine r_aald6 (pc := 52) C hP (cl_3_2 hC h0) hw.1 dX0_copyFrom_52 ?_
      have hi52 := in_lt hw.1
      replace hw := hw.2
      refine lv_aload_n (pc := 53) hx hb dX0_copyFrom_53 rfl (lv_at hl 1 rfl) ?_
      refine gf_142 (pc := 54) C hP h1 dX0_copyFrom_54 ?_
      refine lv_iload_n (pc := 57) hx hb dX0_copyFrom_57 rfl (lv_at hl 2 rfl) ?_
      refine r_aald6 (pc := 58) C hP (cl_3_2 hC h1) hw.1 dX0_copyFrom_58 ?_
      have hi58 := in_lt hw.1
      replace hw := hw.2
      refine r_cVV (pc := 59) (rest := []) (As := [.ref (ad (7, s1, b1, x2.toNatClampNeg))]) C hl.1 hP hS (k_X6_copyFrom l G hC (cl_6_e hC (cl_3_2 hC h0) hi52) (cl_6_e hC (cl_3_2 hC h1) hi58) hw) (cl_6_e hC (cl_3_2 hC h0) hi52) rfl rfl mw_394 mw_395 mw_396 mw_59 mw_397 ⟨rfl, rfl⟩ hd_X6_copyFrom rfl rfl ⟨Nat.le_of_ble_eq_true rfl, Nat.le_of_ble_eq_true rfl⟩ (Nat.le_of_ble_eq_true rfl) ⟨Nat.zero_le _, Nat.zero_le _⟩ dX0_copyFrom_59 (fun M59 H locs hw hP hS => ?_)
      refine lv_iinc (pc := 62) (v := x2 + 1) (lv' := [(2, .int (x2 + 1)), (0, .ref (ad (3, s0, b0, 0))), (1, .ref (ad (3, s1, b1, 0)))]) hx hb dX0_copyFrom_62 hl (k := 2) rfl rfl (by decide) rfl (fun ls hl => ?_)
      refine lv_goto (pc := 65) (tgt := 42) hx hb dX0_copyFrom_65 (by decide) ?_
      exact ih (x2 + 1) M59 _ _ _ hw hP hS (lv_sub hl [1, 2, 0] rfl)
set_option maxHeartbeats 4000000 in
set_option maxRecDepth 100000 in
theorem j_X0_copyFrom_10 {s0 : Nat} {b0 : Nat} {s1 : Nat} {b1 : Nat} (C : cx p s m args meth c cX0_copyFrom 3 none RX0 G) (hC : clo I) (h0 : I (3, s0, b0, 0)) (h1 : I (3, s1, b1, 0)) {Q : Mem → Prop} : ∀ (n : Nat), ∀ (x2 : Int32) (M : Mem) (H : Heap) (locs : List Loc) (ls : Array Slot), w_X0_copyFrom_10 s0 b0 s1 b1 Q n x2 M → wd G I ad M H → va_S (fA I ad) s.heap H locs → lv_has ls 3 [(0, .ref (ad (3, s0, b0, 0))), (1, .ref (ad (3, s1, b1, 0))), (2, .int x2)] → W p l e rm_X0_copyFrom s m args below meth c H locs 0 0 (MQ below (qV G I ad Q) args s 0 0 (fA I ad)) (F0 m 10 ls []) := by
  have hx := C.1
  have hb := C.2.1
  have hown := C.2.2.2.1
  have hts := C.2.2.2.2.1
  intro n
  induction n with
  | zero =>
    intro x2 M H locs ls hw hP hS hl
    rw [w_X0_copyFrom_10] at hw
    exact hw.elim
  | succ n ih =>
    intro x2 M H locs ls hw hP hS hl
    rw [w_X0_copyFrom_10] at hw
    refine lv_iload_n (pc := 10) hx hb dX0_copyFrom_10 rfl (lv_at hl 2 rfl) ?_
    refine lv_bipush (pc := 11) (v := (8 : Int32)) hx hb dX0_copyFrom_11 (by decide) ?_
    refine lv_icmp_ge (pc := 13) (tgt := 40) hx hb dX0_copyFrom_13 (by decide) (fun h => ?_) (fun h => ?_)
    · replace hw := if_t h hw
      refine lv_iconst (pc := 40) (v := (0 : Int32)) hx hb dX0_copyFrom_40 (by decide) ?_
      refine lv_istore_n (pc := 41) (lv' := [(2, .int (0 : Int32)), (0, .ref (ad (3, s0, b0, 0))), (1, .ref (ad (3, s1, b1, 0)))]) hx hb dX0_copyFrom_41 rfl hl (by decide) rfl (fun ls hl => ?_)
      obtain ⟨n0, hw⟩ := hw
      exact j_X0_copyFrom_42 C hC h0 h1 n0 (0 : Int32) M _ _ _ hw hP hS (lv_sub hl [1, 2, 0] rfl)
    · replace hw := if_f h hw
      refine lv_aload_n (pc := 16) hx hb dX0_copyFrom_16 rfl (lv_at hl 1 rfl) ?_
      refine gf_140 (pc := 17) C hP h1 dX0_copyFrom_17 ?_
      refine lv_iload_n (pc := 20) hx hb dX0_copyFrom_20 rfl (lv_at hl 2 rfl) ?_
      refine r_aald4 (pc := 21) C hP (cl_3_1 hC h1) hw.1 dX0_copyFrom_21 ?_
      have hi21 := in_lt hw.1
      replace hw := hw.2
      refine lv_iconst (pc := 22) (v := (0 : Int32)) hx hb dX0_copyFrom_22 (by decide) ?_
      refine lv_aload_n (pc := 23) hx hb dX0_copyFrom_23 rfl (lv_at hl 0 rfl) ?_
      refine gf_140 (pc := 24) C hP h0 dX0_copyFrom_24 ?_
      refine lv_iload_n (pc := 27) hx hb dX0_copyFrom_27 rfl (lv_at hl 2 rfl) ?_
      refine r_aald4 (pc := 28) C hP (cl_3_1 hC h0) hw.1 dX0_copyFrom_28 ?_
      have hi28 := in_lt hw.1
      replace hw := hw.2
      refine lv_iconst (pc := 29) (v := (0 : Int32)) hx hb dX0_copyFrom_29 (by decide) ?_
      refine lv_iconst (pc := 30) (v := (4 : Int32)) hx hb dX0_copyFrom_30 (by decide) ?_
      refine r_copy (pc := 31) (rest := []) (n0 := 4) (n1 := 4) (a := 0) (b := 0) (k := 4) C hl.1 hP hS (cl_4_e hC (cl_3_1 hC h1) hi21) (cl_4_e hC (cl_3_1 hC h0) hi28) (fun _ _ _ _ => rfl) (fun _ _ _ _ => rfl) mw_370 mw_372 mw_371 mw_67 (by decide) (by decide) (by decide) (by decide) (by decide) (by decide) (by decide) (by decide) (Nat.le_of_ble_eq_true rfl) (by decide +kernel) dX0_copyFrom_31 (fun H locs hP hS => ?_)
      refine lv_iinc (pc := 34) (v := x2 + 1) (lv' := [(2, .int (x2 + 1)), (0, .ref (ad (3, s0, b0, 0))), (1, .ref (ad (3, s1, b1, 0)))]) hx hb dX0_copyFrom_34 hl (k := 2) rfl rfl (by decide) rfl (fun ls hl => ?_)
      refine lv_goto (pc := 37) (tgt := 10) hx hb dX0_copyFrom_37 (by decide) ?_
      exact ih (x2 + 1) (mr M (5, s0, b0, x2.toNatClampNeg) (va_cpy (M.1 (5, s1, b1, x2.toNatClampNeg)) (M.1 (5, s0, b0, x2.toNatClampNeg)) 0 0 4)) _ _ _ hw hP hS (lv_sub hl [1, 2, 0] rfl)
set_option maxHeartbeats 4000000 in
set_option maxRecDepth 100000 in
theorem j_X0_copyFrom_0 {s0 : Nat} {b0 : Nat} {s1 : Nat} {b1 : Nat} (C : cx p s m args meth c cX0_copyFrom 3 none RX0 G) (hC : clo I) (h0 : I (3, s0, b0, 0)) (h1 : I (3, s1, b1, 0)) {Q : Mem → Prop} : ∀ (M : Mem) (H : Heap) (locs : List Loc) (ls : Array Slot), w_X0_copyFrom s0 b0 s1 b1 Q M → wd G I ad M H → va_S (fA I ad) s.heap H locs → lv_has ls 3 [(0, .ref (ad (3, s0, b0, 0))), (1, .ref (ad (3, s1, b1, 0)))] → W p l e rm_X0_copyFrom s m args below meth c H locs 0 0 (MQ below (qV G I ad Q) args s 0 0 (fA I ad)) (F0 m 0 ls []) := by
  have hx := C.1
  have hb := C.2.1
  have hown := C.2.2.2.1
  have hts := C.2.2.2.2.1
  intro M H locs ls hw hP hS hl
  unfold w_X0_copyFrom at hw
  refine lv_aload_n (pc := 0) hx hb dX0_copyFrom_0 rfl (lv_at hl 0 rfl) ?_
  refine lv_aload_n (pc := 1) hx hb dX0_copyFrom_1 rfl (lv_at hl 1 rfl) ?_
  refine gf_136 (pc := 2) C hP h1 dX0_copyFrom_2 ?_
  refine pf_136 (pc := 5) C hP hS h0 dX0_copyFrom_5 (fun H locs hP hS => ?_)
  refine lv_iconst (pc := 8) (v := (0 : Int32)) hx hb dX0_copyFrom_8 (by decide) ?_
  refine lv_istore_n (pc := 9) (lv' := [(2, .int (0 : Int32)), (0, .ref (ad (3, s0, b0, 0))), (1, .ref (ad (3, s1, b1, 0)))]) hx hb dX0_copyFrom_9 rfl hl (by decide) rfl (fun ls hl => ?_)
  obtain ⟨n0, hw⟩ := hw
  exact j_X0_copyFrom_10 C hC h0 h1 n0 (0 : Int32) (mu M (3, s0, b0, 0) 0 (M.1 (3, s1, b1, 0) 0)) _ _ _ hw hP hS (lv_sub hl [1, 2, 0] rfl)
end
theorem k_X0_copyFrom (l : Launch) (G : GG) {I : ix → Prop} {ad : ix → Nat} (hC : clo I) {s0 : Nat} {b0 : Nat} {s1 : Nat} {b1 : Nat} (h0 : I (3, s0, b0, 0)) (h1 : I (3, s1, b1, 0)) {Q : Mem → Prop} {M : Mem} (hw : w_X0_copyFrom s0 b0 s1 b1 Q M) : Met l yX0_copyFrom (wW yX0_copyFrom cX0_copyFrom 3 none) rm_X0_copyFrom (va_Pc [.ref (ad (3, s0, b0, 0)), .ref (ad (3, s1, b1, 0))] (fun U => wd G I ad M U.heap ∧ wK G U)) (qV G I ad Q) 0 0 (fA I ad) := met_of (by decide +kernel) (Nat.le_of_ble_eq_true rfl) (fun p e s m below meth c C hP hS ls hl => j_X0_copyFrom_0 C hC h0 h1 _ _ _ _ hw hP hS hl)
section
variable {p : Program} {l : Launch} {e : Env} {s : State} {m : MethodId} {args : Array Value} {below : List Frame} {meth : Method} {c : Code} 
variable  {G : GG} {I : ix → Prop} {ad : ix → Nat}
set_option maxHeartbeats 4000000 in
set_option maxRecDepth 100000 in
theorem j_X1_await_0 {a1 : Int32} (C : cx p s m args meth c cX1_await 2 none RX1 G) (hC : clo I) (h0 : I (11, 0, 0, 0)) {Q : Mem → Prop} : ∀ (M : Mem) (H : Heap) (locs : List Loc) (ls : Array Slot), w_X1_await a1 Q M → wd G I ad M H → va_S (fA I ad) s.heap H locs → lv_has ls 2 [(0, .ref (ad (11, 0, 0, 0))), (1, .int a1)] → W p l e rm_X1_await s m args below meth c H locs 0 0 (MQ below (qV G I ad Q) args s 0 0 (fA I ad)) (F0 m 0 ls []) := by
  have hx := C.1
  have hb := C.2.1
  have hown := C.2.2.2.1
  have hts := C.2.2.2.2.1
  intro M H locs ls hw hP hS hl
  unfold w_X1_await at hw
  refine lv_aload_n (pc := 0) hx hb dX1_await_0 rfl (lv_at hl 0 rfl) ?_
  refine gf_195 (pc := 1) C hP h0 dX1_await_1 ?_
  refine lv_aload_n (pc := 4) hx hb dX1_await_4 rfl (lv_at hl 0 rfl) ?_
  refine gf_194 (pc := 5) C hP h0 dX1_await_5 ?_
  refine r_alen (pc := 8) (n := 121) (v := (121 : Int32)) C hP (cl_11_6 hC h0) (fun _ _ _ _ => rfl) rfl dX1_await_8 ?_
  refine lv_icmp_ge (pc := 9) (tgt := 32) hx hb dX1_await_9 (by decide) (fun h => ?_) (fun h => ?_)
  · replace hw := if_t h hw
    exact r_vret (pc := 32) C hP hS hw dX1_await_32
  · replace hw := if_f h hw
    refine lv_aload_n (pc := 12) hx hb dX1_await_12 rfl (lv_at hl 0 rfl) ?_
    refine gf_194 (pc := 13) C hP h0 dX1_await_13 ?_
    refine lv_aload_n (pc := 16) hx hb dX1_await_16 rfl (lv_at hl 0 rfl) ?_
    refine gf_195 (pc := 17) C hP h0 dX1_await_17 ?_
    refine lv_iload_n (pc := 20) hx hb dX1_await_20 rfl (lv_at hl 1 rfl) ?_
    refine r_iastK (pc := 21) (n := 121) (k := (M.1 (11, 0, 0, 0) 7).toNatClampNeg) C hP hS (cl_11_6 hC h0) (fun _ _ _ _ => rfl) hw.1 rfl dX1_await_21 (fun H locs hP hS => ?_)
    replace hw := hw.2
    refine lv_aload_n (pc := 22) hx hb dX1_await_22 rfl (lv_at hl 0 rfl) ?_
    refine lv_dup (pc := 23) hx hb dX1_await_23 rfl ?_
    refine gf_195 (pc := 24) C hP h0 dX1_await_24 ?_
    refine lv_iconst (pc := 27) (v := (1 : Int32)) hx hb dX1_await_27 (by decide) ?_
    refine lv_iadd (pc := 28) hx hb dX1_await_28 ?_
    refine pf_195 (pc := 29) C hP hS h0 dX1_await_29 (fun H locs hP hS => ?_)
    obtain ⟨M29, eM29⟩ : ∃ z : Mem, z = (mu (mu M (17, 0, 0, 0) ((M.1 (11, 0, 0, 0) 7).toNatClampNeg) a1) (11, 0, 0, 0) 7 (((mu M (17, 0, 0, 0) ((M.1 (11, 0, 0, 0) 7).toNatClampNeg) a1).1 (11, 0, 0, 0) 7) + (1 : Int32))) := ⟨_, rfl⟩
    replace hP : wd G I ad M29 H := by rw [eM29]; exact hP
    replace hw := hw M29 eM29
    exact r_vret (pc := 32) C hP hS hw dX1_await_32
end
theorem k_X1_await (l : Launch) (G : GG) {I : ix → Prop} {ad : ix → Nat} (hC : clo I) {a1 : Int32} (h0 : I (11, 0, 0, 0)) {Q : Mem → Prop} {M : Mem} (hw : w_X1_await a1 Q M) : Met l yX1_await (wW yX1_await cX1_await 2 none) rm_X1_await (va_Pc [.ref (ad (11, 0, 0, 0)), .int a1] (fun U => wd G I ad M U.heap ∧ wK G U)) (qV G I ad Q) 0 0 (fA I ad) := met_of (by decide +kernel) (Nat.le_of_ble_eq_true rfl) (fun p e s m below meth c C hP hS ls hl => j_X1_await_0 C hC h0 _ _ _ _ hw hP hS hl)
section
variable {p : Program} {l : Launch} {e : Env} {s : State} {m : MethodId} {args : Array Value} {below : List Frame} {meth : Method} {c : Code} 
variable  {G : GG} {I : ix → Prop} {ad : ix → Nat}
set_option maxHeartbeats 4000000 in
set_option maxRecDepth 100000 in
theorem j_X1_clear_0 (C : cx p s m args meth c cX1_clear 1 none RX1 G) (hC : clo I) (h0 : I (11, 0, 0, 0)) {Q : Mem → Prop} : ∀ (M : Mem) (H : Heap) (locs : List Loc) (ls : Array Slot), w_X1_clear Q M → wd G I ad M H → va_S (fA I ad) s.heap H locs → lv_has ls 1 [(0, .ref (ad (11, 0, 0, 0)))] → W p l e rm_X1_clear s m args below meth c H locs 0 0 (MQ below (qV G I ad Q) args s 0 0 (fA I ad)) (F0 m 0 ls []) := by
  have hx := C.1
  have hb := C.2.1
  have hown := C.2.2.2.1
  have hts := C.2.2.2.2.1
  intro M H locs ls hw hP hS hl
  unfold w_X1_clear at hw
  refine lv_aload_n (pc := 0) hx hb dX1_clear_0 rfl (lv_at hl 0 rfl) ?_
  refine lv_iconst (pc := 1) (v := (0 : Int32)) hx hb dX1_clear_1 (by decide) ?_
  refine pf_176 (pc := 2) C hP hS h0 dX1_clear_2 (fun H locs hP hS => ?_)
  refine lv_aload_n (pc := 5) hx hb dX1_clear_5 rfl (lv_at hl 0 rfl) ?_
  refine lv_iconst (pc := 6) (v := (0 : Int32)) hx hb dX1_clear_6 (by decide) ?_
  refine pf_195 (pc := 7) C hP hS h0 dX1_clear_7 (fun H locs hP hS => ?_)
  refine lv_aload_n (pc := 10) hx hb dX1_clear_10 rfl (lv_at hl 0 rfl) ?_
  refine lv_ldc (pc := 11) (own := RX1) (v := (-2000000 : Int32)) hx hb hown (hts _ mw_171) dX1_clear_11 ?_
  refine pf_196 (pc := 13) C hP hS h0 dX1_clear_13 (fun H locs hP hS => ?_)
  refine lv_aload_n (pc := 16) hx hb dX1_clear_16 rfl (lv_at hl 0 rfl) ?_
  refine lv_iconst (pc := 17) (v := (1 : Int32)) hx hb dX1_clear_17 (by decide) ?_
  refine r_cVV (pc := 18) (rest := []) (As := [.int (1 : Int32)]) C hl.1 hP hS (k_X1_await l G hC h0 hw) h0 rfl rfl mw_172 mw_174 mw_0 mw_60 mw_175 ⟨rfl, rfl⟩ hd_X1_await rfl rfl ⟨Nat.le_of_ble_eq_true rfl, Nat.le_of_ble_eq_true rfl⟩ (Nat.le_of_ble_eq_true rfl) ⟨Nat.zero_le _, Nat.zero_le _⟩ dX1_clear_18 (fun M18 H locs hw hP hS => ?_)
  exact r_vret (pc := 21) C hP hS hw dX1_clear_21
end
theorem k_X1_clear (l : Launch) (G : GG) {I : ix → Prop} {ad : ix → Nat} (hC : clo I) (h0 : I (11, 0, 0, 0)) {Q : Mem → Prop} {M : Mem} (hw : w_X1_clear Q M) : Met l yX1_clear (wW yX1_clear cX1_clear 1 none) rm_X1_clear (va_Pc [.ref (ad (11, 0, 0, 0))] (fun U => wd G I ad M U.heap ∧ wK G U)) (qV G I ad Q) 0 0 (fA I ad) := met_of (by decide +kernel) (Nat.le_of_ble_eq_true rfl) (fun p e s m below meth c C hP hS ls hl => j_X1_clear_0 C hC h0 _ _ _ _ hw hP hS hl)
section
variable {p : Program} {l : Launch} {e : Env} {s : State} {m : MethodId} {args : Array Value} {below : List Frame} {meth : Method} {c : Code} 
variable  {G : GG} {I : ix → Prop} {ad : ix → Nat}
set_option maxHeartbeats 4000000 in
set_option maxRecDepth 100000 in
theorem j_X1_isFaulty_0 (C : cx p s m args meth c cX1_isFaulty 1 (some .boolean) RX1 G) (hC : clo I) (h0 : I (11, 0, 0, 0)) {Q : Int32 → Mem → Prop} : ∀ (M : Mem) (H : Heap) (locs : List Loc) (ls : Array Slot), w_X1_isFaulty Q M → wd G I ad M H → va_S (fA I ad) s.heap H locs → lv_has ls 1 [(0, .ref (ad (11, 0, 0, 0)))] → W p l e rm_X1_isFaulty s m args below meth c H locs 0 0 (MQ below (qI G I ad Q) args s 0 0 (fA I ad)) (F0 m 0 ls []) := by
  have hx := C.1
  have hb := C.2.1
  have hown := C.2.2.2.1
  have hts := C.2.2.2.2.1
  intro M H locs ls hw hP hS hl
  unfold w_X1_isFaulty at hw
  refine lv_aload_n (pc := 0) hx hb dX1_isFaulty_0 rfl (lv_at hl 0 rfl) ?_
  refine gf_196 (pc := 1) C hP h0 dX1_isFaulty_1 ?_
  refine lv_ldc (pc := 4) (own := RX1) (v := (-2000000 : Int32)) hx hb hown (hts _ mw_171) dX1_isFaulty_4 ?_
  refine lv_icmp_ne (pc := 6) (tgt := 16) hx hb dX1_isFaulty_6 (by decide) (fun h => ?_) (fun h => ?_)
  · replace hw := if_f h hw
    refine lv_iconst (pc := 16) (v := (1 : Int32)) hx hb dX1_isFaulty_16 (by decide) ?_
    refine lv_goto (pc := 17) (tgt := 21) hx hb dX1_isFaulty_17 (by decide) ?_
    exact r_zret (pc := 21) C hP hS (by decide) hw dX1_isFaulty_21
  · replace hw := if_t h hw
    refine lv_aload_n (pc := 9) hx hb dX1_isFaulty_9 rfl (lv_at hl 0 rfl) ?_
    refine gf_195 (pc := 10) C hP h0 dX1_isFaulty_10 ?_
    refine lv_if_le (pc := 13) (tgt := 20) hx hb dX1_isFaulty_13 (by decide) (fun h => ?_) (fun h => ?_)
    · replace hw := if_t h hw
      refine lv_iconst (pc := 20) (v := (0 : Int32)) hx hb dX1_isFaulty_20 (by decide) ?_
      exact r_zret (pc := 21) C hP hS (by decide) hw dX1_isFaulty_21
    · replace hw := if_f h hw
      refine lv_iconst (pc := 16) (v := (1 : Int32)) hx hb dX1_isFaulty_16 (by decide) ?_
      refine lv_goto (pc := 17) (tgt := 21) hx hb dX1_isFaulty_17 (by decide) ?_
      exact r_zret (pc := 21) C hP hS (by decide) hw dX1_isFaulty_21
end
theorem k_X1_isFaulty (l : Launch) (G : GG) {I : ix → Prop} {ad : ix → Nat} (hC : clo I) (h0 : I (11, 0, 0, 0)) {Q : Int32 → Mem → Prop} {M : Mem} (hw : w_X1_isFaulty Q M) : Met l yX1_isFaulty (wW yX1_isFaulty cX1_isFaulty 1 (some .boolean)) rm_X1_isFaulty (va_Pc [.ref (ad (11, 0, 0, 0))] (fun U => wd G I ad M U.heap ∧ wK G U)) (qI G I ad Q) 0 0 (fA I ad) := met_of (by decide +kernel) (Nat.le_of_ble_eq_true rfl) (fun p e s m below meth c C hP hS ls hl => j_X1_isFaulty_0 C hC h0 _ _ _ _ hw hP hS hl)
section
variable {p : Program} {l : Launch} {e : Env} {s : State} {m : MethodId} {args : Array Value} {below : List Frame} {meth : Method} {c : Code} 
variable  {G : GG} {I : ix → Prop} {ad : ix → Nat}
set_option maxHeartbeats 4000000 in
set_option maxRecDepth 100000 in
theorem j_X8_at_0 {r0 : ix} {n0 : Nat} {a1 : Int32} (C : cx p s m args meth c cX8_at 2 (some .int) RX8 G) (hC : clo I) (hr0 : I r0) (hn0 : isI r0 n0) {Q : Int32 → Mem → Prop} : ∀ (M : Mem) (H : Heap) (locs : List Loc) (ls : Array Slot), w_X8_at r0 n0 a1 Q M → wd G I ad M H → va_S (fA I ad) s.heap H locs → lv_has ls 2 [(0, .ref (ad r0)), (1, .int a1)] → W p l e rm_X8_at s m args below meth c H locs 0 0 (MQ below (qI G I ad Q) args s 0 0 (fA I ad)) (F0 m 0 ls []) := by
  have hx := C.1
  have hb := C.2.1
  have hown := C.2.2.2.1
  have hts := C.2.2.2.2.1
  intro M H locs ls hw hP hS hl
  unfold w_X8_at at hw
  refine lv_iload_n (pc := 0) hx hb dX8_at_0 rfl (lv_at hl 1 rfl) ?_
  refine lv_if_lt (pc := 1) (tgt := 16) hx hb dX8_at_1 (by decide) (fun h => ?_) (fun h => ?_)
  · replace hw := if_t h hw
    refine lv_iconst (pc := 16) (v := (0 : Int32)) hx hb dX8_at_16 (by decide) ?_
    exact r_iret (pc := 17) C hP hS hw dX8_at_17
  · replace hw := if_f h hw
    refine lv_iload_n (pc := 4) hx hb dX8_at_4 rfl (lv_at hl 1 rfl) ?_
    refine lv_aload_n (pc := 5) hx hb dX8_at_5 rfl (lv_at hl 0 rfl) ?_
    refine r_alen (pc := 6) (n := n0) (v := (Int32.ofNat n0)) C hP hr0 hn0 rfl dX8_at_6 ?_
    refine lv_icmp_ge (pc := 7) (tgt := 16) hx hb dX8_at_7 (by decide) (fun h => ?_) (fun h => ?_)
    · replace hw := if_t h hw
      refine lv_iconst (pc := 16) (v := (0 : Int32)) hx hb dX8_at_16 (by decide) ?_
      exact r_iret (pc := 17) C hP hS hw dX8_at_17
    · replace hw := if_f h hw
      refine lv_aload_n (pc := 10) hx hb dX8_at_10 rfl (lv_at hl 0 rfl) ?_
      refine lv_iload_n (pc := 11) hx hb dX8_at_11 rfl (lv_at hl 1 rfl) ?_
      refine r_ialdK (pc := 12) (n := n0) (k := a1.toNatClampNeg) C hP hr0 hn0 hw.1 rfl dX8_at_12 ?_
      replace hw := hw.2
      refine lv_goto (pc := 13) (tgt := 17) hx hb dX8_at_13 (by decide) ?_
      exact r_iret (pc := 17) C hP hS hw dX8_at_17
end
theorem k_X8_at (l : Launch) (G : GG) {I : ix → Prop} {ad : ix → Nat} (hC : clo I) {r0 : ix} {n0 : Nat} {a1 : Int32} (hr0 : I r0) (hn0 : isI r0 n0) {Q : Int32 → Mem → Prop} {M : Mem} (hw : w_X8_at r0 n0 a1 Q M) : Met l yX8_at (wW yX8_at cX8_at 2 (some .int)) rm_X8_at (va_Pc [.ref (ad r0), .int a1] (fun U => wd G I ad M U.heap ∧ wK G U)) (qI G I ad Q) 0 0 (fA I ad) := met_of (by decide +kernel) (Nat.le_of_ble_eq_true rfl) (fun p e s m below meth c C hP hS ls hl => j_X8_at_0 C hC hr0 hn0 _ _ _ _ hw hP hS hl)
section
variable {p : Program} {l : Launch} {e : Env} {s : State} {m : MethodId} {args : Array Value} {below : List Frame} {meth : Method} {c : Code} 
variable  {G : GG} {I : ix → Prop} {ad : ix → Nat}
set_option maxHeartbeats 4000000 in
set_option maxRecDepth 100000 in
theorem j_X8_isFigure_0 {a0 : Int32} (C : cx p s m args meth c cX8_isFigure 1 (some .boolean) RX8 G) (hC : clo I) {Q : Int32 → Mem → Prop} : ∀ (M : Mem) (H : Heap) (locs : List Loc) (ls : Array Slot), w_X8_isFigure a0 Q M → wd G I ad M H → va_S (fA I ad) s.heap H locs → lv_has ls 1 [(0, .int a0)] → W p l e rm_X8_isFigure s m args below meth c H locs 0 0 (MQ below (qI G I ad Q) args s 0 0 (fA I ad)) (F0 m 0 ls []) := by
  have hx := C.1
  have hb := C.2.1
  have hown := C.2.2.2.1
  have hts := C.2.2.2.2.1
  intro M H locs ls hw hP hS hl
  unfold w_X8_isFigure at hw
  refine lv_iload_n (pc := 0) hx hb dX8_isFigure_0 rfl (lv_at hl 0 rfl) ?_
  refine lv_bipush (pc := 1) (v := (48 : Int32)) hx hb dX8_isFigure_1 (by decide) ?_
  refine lv_icmp_lt (pc := 3) (tgt := 16) hx hb dX8_isFigure_3 (by decide) (fun h => ?_) (fun h => ?_)
  · replace hw := if_t h hw
    refine lv_iconst (pc := 16) (v := (0 : Int32)) hx hb dX8_isFigure_16 (by decide) ?_
    exact r_zret (pc := 17) C hP hS (by decide) hw dX8_isFigure_17
  · replace hw := if_f h hw
    refine lv_iload_n (pc := 6) hx hb dX8_isFigure_6 rfl (lv_at hl 0 rfl) ?_
    refine lv_bipush (pc := 7) (v := (57 : Int32)) hx hb dX8_isFigure_7 (by decide) ?_
    refine lv_icmp_gt (pc := 9) (tgt := 16) hx hb dX8_isFigure_9 (by decide) (fun h => ?_) (fun h => ?_)
    · replace hw := if_t h hw
      refine lv_iconst (pc := 16) (v := (0 : Int32)) hx hb dX8_isFigure_16 (by decide) ?_
      exact r_zret (pc := 17) C hP hS (by decide) hw dX8_isFigure_17
    · replace hw := if_f h hw
      refine lv_iconst (pc := 12) (v := (1 : Int32)) hx hb dX8_isFigure_12 (by decide) ?_
      refine lv_goto (pc := 13) (tgt := 17) hx hb dX8_isFigure_13 (by decide) ?_
      exact r_zret (pc := 17) C hP hS (by decide) hw dX8_isFigure_17
end
theorem k_X8_isFigure (l : Launch) (G : GG) {I : ix → Prop} {ad : ix → Nat} (hC : clo I) {a0 : Int32} {Q : Int32 → Mem → Prop} {M : Mem} (hw : w_X8_isFigure a0 Q M) : Met l yX8_isFigure (wW yX8_isFigure cX8_isFigure 1 (some .boolean)) rm_X8_isFigure (va_Pc [.int a0] (fun U => wd G I ad M U.heap ∧ wK G U)) (qI G I ad Q) 0 0 (fA I ad) := met_of (by decide +kernel) (Nat.le_of_ble_eq_true rfl) (fun p e s m below meth c C hP hS ls hl => j_X8_isFigure_0 C hC  _ _ _ _ hw hP hS hl)
section
variable {p : Program} {l : Launch} {e : Env} {s : State} {m : MethodId} {args : Array Value} {below : List Frame} {meth : Method} {c : Code} 
variable  {G : GG} {I : ix → Prop} {ad : ix → Nat}
set_option maxHeartbeats 4000000 in
set_option maxRecDepth 100000 in
theorem j_X1_figureAt_0 {a1 : Int32} (C : cx p s m args meth c cX1_figureAt 3 (some .int) RX1 G) (hC : clo I) (h0 : I (11, 0, 0, 0)) {Q : Int32 → Mem → Prop} : ∀ (M : Mem) (H : Heap) (locs : List Loc) (ls : Array Slot), w_X1_figureAt a1 Q M → wd G I ad M H → va_S (fA I ad) s.heap H locs → lv_has ls 3 [(0, .ref (ad (11, 0, 0, 0))), (1, .int a1)] → W p l e rm_X1_figureAt s m args below meth c H locs 0 0 (MQ below (qI G I ad Q) args s 0 0 (fA I ad)) (F0 m 0 ls []) := by
  have hx := C.1
  have hb := C.2.1
  have hown := C.2.2.2.1
  have hts := C.2.2.2.2.1
  intro M H locs ls hw hP hS hl
  unfold w_X1_figureAt at hw
  refine lv_aload_n (pc := 0) hx hb dX1_figureAt_0 rfl (lv_at hl 0 rfl) ?_
  refine gf_180 (pc := 1) C hP h0 dX1_figureAt_1 ?_
  refine lv_iload_n (pc := 4) hx hb dX1_figureAt_4 rfl (lv_at hl 1 rfl) ?_
  refine r_cNI (pc := 5) (rest := []) (As := [.ref (ad (12, 0, 0, 0)), .int a1]) C hl.1 hP hS (k_X8_at l G hC (cl_11_1 hC h0) (fun _ _ _ _ => rfl) hw) (List.mem_of_getElem? (i := 2) rfl) mw_453 mw_56 mw_454 ⟨rfl, rfl⟩ hd_X8_at rfl rfl ⟨Nat.le_of_ble_eq_true rfl, Nat.le_of_ble_eq_true rfl⟩ (Nat.le_of_ble_eq_true rfl) ⟨Nat.zero_le _, Nat.zero_le _⟩ dX1_figureAt_5 (fun r5 M5 H locs hw hP hS => ?_)
  refine lv_istore_n (pc := 8) (lv' := [(2, .int r5), (0, .ref (ad (11, 0, 0, 0))), (1, .int a1)]) hx hb dX1_figureAt_8 rfl hl (by decide) rfl (fun ls hl => ?_)
  refine lv_iload_n (pc := 9) hx hb dX1_figureAt_9 rfl (lv_at hl 0 rfl) ?_
  refine r_cNI (pc := 10) (rest := []) (As := [.int r5]) C hl.1 hP hS (k_X8_isFigure l G hC  hw) (List.mem_of_getElem? (i := 1) rfl) mw_442 mw_56 mw_443 ⟨rfl, rfl⟩ hd_X8_isFigure rfl rfl ⟨Nat.le_of_ble_eq_true rfl, Nat.le_of_ble_eq_true rfl⟩ (Nat.le_of_ble_eq_true rfl) ⟨Nat.zero_le _, Nat.zero_le _⟩ dX1_figureAt_10 (fun r10 M10 H locs hw hP hS => ?_)
  refine lv_if_eq (pc := 13) (tgt := 23) hx hb dX1_figureAt_13 (by decide) (fun h => ?_) (fun h => ?_)
  · replace hw := if_t h hw
    refine lv_iconst (pc := 23) (v := (0 : Int32)) hx hb dX1_figureAt_23 (by decide) ?_
    exact r_iret (pc := 24) C hP hS hw dX1_figureAt_24
  · replace hw := if_f h hw
    refine lv_iload_n (pc := 16) hx hb dX1_figureAt_16 rfl (lv_at hl 0 rfl) ?_
    refine lv_bipush (pc := 17) (v := (48 : Int32)) hx hb dX1_figureAt_17 (by decide) ?_
    refine lv_isub (pc := 19) hx hb dX1_figureAt_19 ?_
    refine lv_goto (pc := 20) (tgt := 24) hx hb dX1_figureAt_20 (by decide) ?_
    exact r_iret (pc := 24) C hP hS hw dX1_figureAt_24
end
theorem k_X1_figureAt (l : Launch) (G : GG) {I : ix → Prop} {ad : ix → Nat} (hC : clo I) {a1 : Int32} (h0 : I (11, 0, 0, 0)) {Q : Int32 → Mem → Prop} {M : Mem} (hw : w_X1_figureAt a1 Q M) : Met l yX1_figureAt (wW yX1_figureAt cX1_figureAt 3 (some .int)) rm_X1_figureAt (va_Pc [.ref (ad (11, 0, 0, 0)), .int a1] (fun U => wd G I ad M U.heap ∧ wK G U)) (qI G I ad Q) 0 0 (fA I ad) := met_of (by decide +kernel) (Nat.le_of_ble_eq_true rfl) (fun p e s m below meth c C hP hS ls hl => j_X1_figureAt_0 C hC h0 _ _ _ _ hw hP hS hl)
section
variable {p : Program} {l : Launch} {e : Env} {s : State} {m : MethodId} {args : Array Value} {below : List Frame} {meth : Method} {c : Code} 
variable  {G : GG} {I : ix → Prop} {ad : ix → Nat}
set_option maxHeartbeats 4000000 in
set_option maxRecDepth 100000 in
theorem j_X1_numberAt_0 {a1 : Int32} (C : cx p s m args meth c cX1_numberAt 2 (some .int) RX1 G) (hC : clo I) (h0 : I (11, 0, 0, 0)) {Q : Int32 → Mem → Prop} : ∀ (M : Mem) (H : Heap) (locs : List Loc) (ls : Array Slot), w_X1_numberAt a1 Q M → wd G I ad M H → va_S (fA I ad) s.heap H locs → lv_has ls 2 [(0, .ref (ad (11, 0, 0, 0))), (1, .int a1)] → W p l e rm_X1_numberAt s m args below meth c H locs 0 0 (MQ below (qI G I ad Q) args s 0 0 (fA I ad)) (F0 m 0 ls []) := by
  have hx := C.1
  have hb := C.2.1
  have hown := C.2.2.2.1
  have hts := C.2.2.2.2.1
  intro M H locs ls hw hP hS hl
  unfold w_X1_numberAt at hw
  refine lv_aload_n (pc := 0) hx hb dX1_numberAt_0 rfl (lv_at hl 0 rfl) ?_
  refine gf_180 (pc := 1) C hP h0 dX1_numberAt_1 ?_
  refine lv_iload_n (pc := 4) hx hb dX1_numberAt_4 rfl (lv_at hl 1 rfl) ?_
  refine r_ialdK (pc := 5) (n := 60) (k := a1.toNatClampNeg) C hP (cl_11_1 hC h0) (fun _ _ _ _ => rfl) hw.1 rfl dX1_numberAt_5 ?_
  replace hw := hw.2
  refine lv_bipush (pc := 6) (v := (35 : Int32)) hx hb dX1_numberAt_6 (by decide) ?_
  refine lv_icmp_ne (pc := 8) (tgt := 41) hx hb dX1_numberAt_8 (by decide) (fun h => ?_) (fun h => ?_)
  · replace hw := if_f h hw
    refine lv_aload_n (pc := 41) hx hb dX1_numberAt_41 rfl (lv_at hl 0 rfl) ?_
    refine lv_aload_n (pc := 42) hx hb dX1_numberAt_42 rfl (lv_at hl 0 rfl) ?_
    refine gf_180 (pc := 43) C hP h0 dX1_numberAt_43 ?_
    refine lv_iload_n (pc := 46) hx hb dX1_numberAt_46 rfl (lv_at hl 1 rfl) ?_
    refine r_ialdK (pc := 47) (n := 60) (k := a1.toNatClampNeg) C hP (cl_11_1 hC h0) (fun _ _ _ _ => rfl) hw.1 rfl dX1_numberAt_47 ?_
    replace hw := hw.2
    refine lv_bipush (pc := 48) (v := (37 : Int32)) hx hb dX1_numberAt_48 (by decide) ?_
    refine lv_icmp_ne (pc := 50) (tgt := 62) hx hb dX1_numberAt_50 (by decide) (fun h => ?_) (fun h => ?_)
    · replace hw := if_f h hw
      refine lv_iload_n (pc := 62) hx hb dX1_numberAt_62 rfl (lv_at hl 1 rfl) ?_
      refine r_cVI (pc := 63) (rest := []) (As := [.int a1]) C hl.1 hP hS (k_X1_figureAt l G hC h0 hw) h0 rfl rfl mw_459 mw_461 mw_10 mw_60 mw_462 ⟨rfl, rfl⟩ hd_X1_figureAt rfl rfl ⟨Nat.le_of_ble_eq_true rfl, Nat.le_of_ble_eq_true rfl⟩ (Nat.le_of_ble_eq_true rfl) ⟨Nat.zero_le _, Nat.zero_le _⟩ dX1_numberAt_63 (fun r63 M63 H locs hw hP hS => ?_)
      exact r_iret (pc := 66) C hP hS hw dX1_numberAt_66
    · replace hw := if_t h hw
      refine lv_aload_n (pc := 53) hx hb dX1_numberAt_53 rfl (lv_at hl 0 rfl) ?_
      refine gf_187 (pc := 54) C hP h0 dX1_numberAt_54 ?_
      refine lv_iload_n (pc := 57) hx hb dX1_numberAt_57 rfl (lv_at hl 1 rfl) ?_
      refine r_ialdK (pc := 58) (n := 60) (k := a1.toNatClampNeg) C hP (cl_11_3 hC h0) (fun _ _ _ _ => rfl) hw.1 rfl dX1_numberAt_58 ?_
      replace hw := hw.2
      refine lv_goto (pc := 59) (tgt := 63) hx hb dX1_numberAt_59 (by decide) ?_
      refine r_cVI (pc := 63) (rest := []) (As := [.int (M.1 (14, 0, 0, 0) a1.toNatClampNeg)]) C hl.1 hP hS (k_X1_figureAt l G hC h0 hw) h0 rfl rfl mw_459 mw_461 mw_10 mw_60 mw_462 ⟨rfl, rfl⟩ hd_X1_figureAt rfl rfl ⟨Nat.le_of_ble_eq_true rfl, Nat.le_of_ble_eq_true rfl⟩ (Nat.le_of_ble_eq_true rfl) ⟨Nat.zero_le _, Nat.zero_le _⟩ dX1_numberAt_63 (fun r63 M63 H locs hw hP hS => ?_)
      exact r_iret (pc := 66) C hP hS hw dX1_numberAt_66
  · replace hw := if_t h hw
    refine lv_bipush (pc := 11) (v := (100 : Int32)) hx hb dX1_numberAt_11 (by decide) ?_
    refine lv_aload_n (pc := 13) hx hb dX1_numberAt_13 rfl (lv_at hl 0 rfl) ?_
    refine lv_iload_n (pc := 14) hx hb dX1_numberAt_14 rfl (lv_at hl 1 rfl) ?_
    refine lv_iconst (pc := 15) (v := (1 : Int32)) hx hb dX1_numberAt_15 (by decide) ?_
    refine lv_iadd (pc := 16) hx hb dX1_numberAt_16 ?_
    refine r_cVI (pc := 17) (rest := [.int (100 : Int32)]) (As := [.int (a1 + (1 : Int32))]) C hl.1 hP hS (k_X1_figureAt l G hC h0 hw) h0 rfl rfl mw_459 mw_461 mw_10 mw_60 mw_462 ⟨rfl, rfl⟩ hd_X1_figureAt rfl rfl ⟨Nat.le_of_ble_eq_true rfl, Nat.le_of_ble_eq_true rfl⟩ (Nat.le_of_ble_eq_true rfl) ⟨Nat.zero_le _, Nat.zero_le _⟩ dX1_numberAt_17 (fun r17 M17 H locs hw hP hS => ?_)
    refine lv_imul (pc := 20) hx hb dX1_numberAt_20 ?_
    refine lv_bipush (pc := 21) (v := (10 : Int32)) hx hb dX1_numberAt_21 (by decide) ?_
    refine lv_aload_n (pc := 23) hx hb dX1_numberAt_23 rfl (lv_at hl 0 rfl) ?_
    refine lv_iload_n (pc := 24) hx hb dX1_numberAt_24 rfl (lv_at hl 1 rfl) ?_
    refine lv_iconst (pc := 25) (v := (2 : Int32)) hx hb dX1_numberAt_25 (by decide) ?_
    refine lv_iadd (pc := 26) hx hb dX1_numberAt_26 ?_
    refine r_cVI (pc := 27) (rest := [.int (10 : Int32), .int ((100 : Int32) * r17)]) (As := [.int (a1 + (2 : Int32))]) C hl.1 hP hS (k_X1_figureAt l G hC h0 hw) h0 rfl rfl mw_459 mw_461 mw_10 mw_60 mw_462 ⟨rfl, rfl⟩ hd_X1_figureAt rfl rfl ⟨Nat.le_of_ble_eq_true rfl, Nat.le_of_ble_eq_true rfl⟩ (Nat.le_of_ble_eq_true rfl) ⟨Nat.zero_le _, Nat.zero_le _⟩ dX1_numberAt_27 (fun r27 M27 H locs hw hP hS => ?_)
    refine lv_imul (pc := 30) hx hb dX1_numberAt_30 ?_
    refine lv_iadd (pc := 31) hx hb dX1_numberAt_31 ?_
    refine lv_aload_n (pc := 32) hx hb dX1_numberAt_32 rfl (lv_at hl 0 rfl) ?_
    refine lv_iload_n (pc := 33) hx hb dX1_numberAt_33 rfl (lv_at hl 1 rfl) ?_
    refine lv_iconst (pc := 34) (v := (3 : Int32)) hx hb dX1_numberAt_34 (by decide) ?_
    refine lv_iadd (pc := 35) hx hb dX1_numberAt_35 ?_
    refine r_cVI (pc := 36) (rest := [.int (((100 : Int32) * r17) + ((10 : Int32) * r27))]) (As := [.int (a1 + (3 : Int32))]) C hl.1 hP hS (k_X1_figureAt l G hC h0 hw) h0 rfl rfl mw_459 mw_461 mw_10 mw_60 mw_462 ⟨rfl, rfl⟩ hd_X1_figureAt rfl rfl ⟨Nat.le_of_ble_eq_true rfl, Nat.le_of_ble_eq_true rfl⟩ (Nat.le_of_ble_eq_true rfl) ⟨Nat.zero_le _, Nat.zero_le _⟩ dX1_numberAt_36 (fun r36 M36 H locs hw hP hS => ?_)
    refine lv_iadd (pc := 39) hx hb dX1_numberAt_39 ?_
    exact r_iret (pc := 40) C hP hS hw dX1_numberAt_40
end
theorem k_X1_numberAt (l : Launch) (G : GG) {I : ix → Prop} {ad : ix → Nat} (hC : clo I) {a1 : Int32} (h0 : I (11, 0, 0, 0)) {Q : Int32 → Mem → Prop} {M : Mem} (hw : w_X1_numberAt a1 Q M) : Met l yX1_numberAt (wW yX1_numberAt cX1_numberAt 2 (some .int)) rm_X1_numberAt (va_Pc [.ref (ad (11, 0, 0, 0)), .int a1] (fun U => wd G I ad M U.heap ∧ wK G U)) (qI G I ad Q) 0 0 (fA I ad) := met_of (by decide +kernel) (Nat.le_of_ble_eq_true rfl) (fun p e s m below meth c C hP hS ls hl => j_X1_numberAt_0 C hC h0 _ _ _ _ hw hP hS hl)
section
variable {p : Program} {l : Launch} {e : Env} {s : State} {m : MethodId} {args : Array Value} {below : List Frame} {meth : Method} {c : Code} 
variable  {G : GG} {I : ix → Prop} {ad : ix → Nat}
set_option maxHeartbeats 4000000 in
set_option maxRecDepth 100000 in
theorem j_X8_isSum_0 {a0 : Int32} (C : cx p s m args meth c cX8_isSum 1 (some .boolean) RX8 G) (hC : clo I) {Q : Int32 → Mem → Prop} : ∀ (M : Mem) (H : Heap) (locs : List Loc) (ls : Array Slot), w_X8_isSum a0 Q M → wd G I ad M H → va_S (fA I ad) s.heap H locs → lv_has ls 1 [(0, .int a0)] → W p l e rm_X8_isSum s m args below meth c H locs 0 0 (MQ below (qI G I ad Q) args s 0 0 (fA I ad)) (F0 m 0 ls []) := by
  have hx := C.1
  have hb := C.2.1
  have hown := C.2.2.2.1
  have hts := C.2.2.2.2.1
  intro M H locs ls hw hP hS hl
  unfold w_X8_isSum at hw
  refine lv_iload_n (pc := 0) hx hb dX8_isSum_0 rfl (lv_at hl 0 rfl) ?_
  refine lv_bipush (pc := 1) (v := (43 : Int32)) hx hb dX8_isSum_1 (by decide) ?_
  refine lv_icmp_eq (pc := 3) (tgt := 18) hx hb dX8_isSum_3 (by decide) (fun h => ?_) (fun h => ?_)
  · replace hw := if_t h hw
    refine lv_iconst (pc := 18) (v := (1 : Int32)) hx hb dX8_isSum_18 (by decide) ?_
    refine lv_goto (pc := 19) (tgt := 23) hx hb dX8_isSum_19 (by decide) ?_
    exact r_zret (pc := 23) C hP hS (by decide) hw dX8_isSum_23
  · replace hw := if_f h hw
    refine lv_iload_n (pc := 6) hx hb dX8_isSum_6 rfl (lv_at hl 0 rfl) ?_
    refine lv_bipush (pc := 7) (v := (45 : Int32)) hx hb dX8_isSum_7 (by decide) ?_
    refine lv_icmp_eq (pc := 9) (tgt := 18) hx hb dX8_isSum_9 (by decide) (fun h => ?_) (fun h => ?_)
    · replace hw := if_t h hw
      refine lv_iconst (pc := 18) (v := (1 : Int32)) hx hb dX8_isSum_18 (by decide) ?_
      refine lv_goto (pc := 19) (tgt := 23) hx hb dX8_isSum_19 (by decide) ?_
      exact r_zret (pc := 23) C hP hS (by decide) hw dX8_isSum_23
    · replace hw := if_f h hw
      refine lv_iload_n (pc := 12) hx hb dX8_isSum_12 rfl (lv_at hl 0 rfl) ?_
      refine lv_bipush (pc := 13) (v := (42 : Int32)) hx hb dX8_isSum_13 (by decide) ?_
      refine lv_icmp_ne (pc := 15) (tgt := 22) hx hb dX8_isSum_15 (by decide) (fun h => ?_) (fun h => ?_)
      · replace hw := if_f h hw
        refine lv_iconst (pc := 22) (v := (0 : Int32)) hx hb dX8_isSum_22 (by decide) ?_
        exact r_zret (pc := 23) C hP hS (by decide) hw dX8_isSum_23
      · replace hw := if_t h hw
        refine lv_iconst (pc := 18) (v := (1 : Int32)) hx hb dX8_isSum_18 (by decide) ?_
        refine lv_goto (pc := 19) (tgt := 23) hx hb dX8_isSum_19 (by decide) ?_
        exact r_zret (pc := 23) C hP hS (by decide) hw dX8_isSum_23
end
theorem k_X8_isSum (l : Launch) (G : GG) {I : ix → Prop} {ad : ix → Nat} (hC : clo I) {a0 : Int32} {Q : Int32 → Mem → Prop} {M : Mem} (hw : w_X8_isSum a0 Q M) : Met l yX8_isSum (wW yX8_isSum cX8_isSum 1 (some .boolean)) rm_X8_isSum (va_Pc [.int a0] (fun U => wd G I ad M U.heap ∧ wK G U)) (qI G I ad Q) 0 0 (fA I ad) := met_of (by decide +kernel) (Nat.le_of_ble_eq_true rfl) (fun p e s m below meth c C hP hS ls hl => j_X8_isSum_0 C hC  _ _ _ _ hw hP hS hl)
section
variable {p : Program} {l : Launch} {e : Env} {s : State} {m : MethodId} {args : Array Value} {below : List Frame} {meth : Method} {c : Code} 
variable  {G : GG} {I : ix → Prop} {ad : ix → Nat}
set_option maxHeartbeats 4000000 in
set_option maxRecDepth 100000 in
theorem j_X8_hasSecond_0 {a0 : Int32} (C : cx p s m args meth c cX8_hasSecond 1 (some .boolean) RX8 G) (hC : clo I) {Q : Int32 → Mem → Prop} : ∀ (M : Mem) (H : Heap) (locs : List Loc) (ls : Array Slot), w_X8_hasSecond a0 Q M → wd G I ad M H → va_S (fA I ad) s.heap H locs → lv_has ls 1 [(0, .int a0)] → W p l e rm_X8_hasSecond s m args below meth c H locs 0 0 (MQ below (qI G I ad Q) args s 0 0 (fA I ad)) (F0 m 0 ls []) := by
  have hx := C.1
  have hb := C.2.1
  have hown := C.2.2.2.1
  have hts := C.2.2.2.2.1
  intro M H locs ls hw hP hS hl
  unfold w_X8_hasSecond at hw
  refine lv_iload_n (pc := 0) hx hb dX8_hasSecond_0 rfl (lv_at hl 0 rfl) ?_
  refine r_cSI (pc := 1) (rest := []) (As := [.int a0]) C hl.1 hP hS (k_X8_isSum l G hC  hw) mw_466 mw_467 mw_56 mw_468 ⟨rfl, rfl⟩ hd_X8_isSum rfl rfl ⟨Nat.le_of_ble_eq_true rfl, Nat.le_of_ble_eq_true rfl⟩ (Nat.le_of_ble_eq_true rfl) ⟨Nat.zero_le _, Nat.zero_le _⟩ dX8_hasSecond_1 (fun r1 M1 H locs hw hP hS => ?_)
  refine lv_if_ne (pc := 4) (tgt := 37) hx hb dX8_hasSecond_4 (by decide) (fun h => ?_) (fun h => ?_)
  · replace hw := if_f h hw
    refine lv_iconst (pc := 37) (v := (1 : Int32)) hx hb dX8_hasSecond_37 (by decide) ?_
    refine lv_goto (pc := 38) (tgt := 42) hx hb dX8_hasSecond_38 (by decide) ?_
    exact r_zret (pc := 42) C hP hS (by decide) hw dX8_hasSecond_42
  · replace hw := if_t h hw
    refine lv_iload_n (pc := 7) hx hb dX8_hasSecond_7 rfl (lv_at hl 0 rfl) ?_
    refine lv_bipush (pc := 8) (v := (37 : Int32)) hx hb dX8_hasSecond_8 (by decide) ?_
    refine lv_icmp_eq (pc := 10) (tgt := 37) hx hb dX8_hasSecond_10 (by decide) (fun h => ?_) (fun h => ?_)
    · replace hw := if_t h hw
      refine lv_iconst (pc := 37) (v := (1 : Int32)) hx hb dX8_hasSecond_37 (by decide) ?_
      refine lv_goto (pc := 38) (tgt := 42) hx hb dX8_hasSecond_38 (by decide) ?_
      exact r_zret (pc := 42) C hP hS (by decide) hw dX8_hasSecond_42
    · replace hw := if_f h hw
      refine lv_iload_n (pc := 13) hx hb dX8_hasSecond_13 rfl (lv_at hl 0 rfl) ?_
      refine lv_bipush (pc := 14) (v := (60 : Int32)) hx hb dX8_hasSecond_14 (by decide) ?_
      refine lv_icmp_eq (pc := 16) (tgt := 37) hx hb dX8_hasSecond_16 (by decide) (fun h => ?_) (fun h => ?_)
      · replace hw := if_t h hw
        refine lv_iconst (pc := 37) (v := (1 : Int32)) hx hb dX8_hasSecond_37 (by decide) ?_
        refine lv_goto (pc := 38) (tgt := 42) hx hb dX8_hasSecond_38 (by decide) ?_
        exact r_zret (pc := 42) C hP hS (by decide) hw dX8_hasSecond_42
      · replace hw := if_f h hw
        refine lv_iload_n (pc := 19) hx hb dX8_hasSecond_19 rfl (lv_at hl 0 rfl) ?_
        refine lv_bipush (pc := 20) (v := (61 : Int32)) hx hb dX8_hasSecond_20 (by decide) ?_
        refine lv_icmp_eq (pc := 22) (tgt := 37) hx hb dX8_hasSecond_22 (by decide) (fun h => ?_) (fun h => ?_)
        · replace hw := if_t h hw
          refine lv_iconst (pc := 37) (v := (1 : Int32)) hx hb dX8_hasSecond_37 (by decide) ?_
          refine lv_goto (pc := 38) (tgt := 42) hx hb dX8_hasSecond_38 (by decide) ?_
          exact r_zret (pc := 42) C hP hS (by decide) hw dX8_hasSecond_42
        · replace hw := if_f h hw
          refine lv_iload_n (pc := 25) hx hb dX8_hasSecond_25 rfl (lv_at hl 0 rfl) ?_
          refine lv_bipush (pc := 26) (v := (38 : Int32)) hx hb dX8_hasSecond_26 (by decide) ?_
          refine lv_icmp_eq (pc := 28) (tgt := 37) hx hb dX8_hasSecond_28 (by decide) (fun h => ?_) (fun h => ?_)
          · replace hw := if_t h hw
            refine lv_iconst (pc := 37) (v := (1 : Int32)) hx hb dX8_hasSecond_37 (by decide) ?_
            refine lv_goto (pc := 38) (tgt := 42) hx hb dX8_hasSecond_38 (by decide) ?_
            exact r_zret (pc := 42) C hP hS (by decide) hw dX8_hasSecond_42
          · replace hw := if_f h hw
            refine lv_iload_n (pc := 31) hx hb dX8_hasSecond_31 rfl (lv_at hl 0 rfl) ?_
            refine lv_bipush (pc := 32) (v := (124 : Int32)) hx hb dX8_hasSecond_32 (by decide) ?_
            refine lv_icmp_ne (pc := 34) (tgt := 41) hx hb dX8_hasSecond_34 (by decide) (fun h => ?_) (fun h => ?_)
            · replace hw := if_f h hw
              refine lv_iconst (pc := 41) (v := (0 : Int32)) hx hb dX8_hasSecond_41 (by decide) ?_
              exact r_zret (pc := 42) C hP hS (by decide) hw dX8_hasSecond_42
            · replace hw := if_t h hw
              refine lv_iconst (pc := 37) (v := (1 : Int32)) hx hb dX8_hasSecond_37 (by decide) ?_
              refine lv_goto (pc := 38) (tgt := 42) hx hb dX8_hasSecond_38 (by decide) ?_
              exact r_zret (pc := 42) C hP hS (by decide) hw dX8_hasSecond_42
end
theorem k_X8_hasSecond (l : Launch) (G : GG) {I : ix → Prop} {ad : ix → Nat} (hC : clo I) {a0 : Int32} {Q : Int32 → Mem → Prop} {M : Mem} (hw : w_X8_hasSecond a0 Q M) : Met l yX8_hasSecond (wW yX8_hasSecond cX8_hasSecond 1 (some .boolean)) rm_X8_hasSecond (va_Pc [.int a0] (fun U => wd G I ad M U.heap ∧ wK G U)) (qI G I ad Q) 0 0 (fA I ad) := met_of (by decide +kernel) (Nat.le_of_ble_eq_true rfl) (fun p e s m below meth c C hP hS ls hl => j_X8_hasSecond_0 C hC  _ _ _ _ hw hP hS hl)
section
variable {p : Program} {l : Launch} {e : Env} {s : State} {m : MethodId} {args : Array Value} {below : List Frame} {meth : Method} {c : Code} 
variable  {G : GG} {I : ix → Prop} {ad : ix → Nat}
set_option maxHeartbeats 4000000 in
set_option maxRecDepth 100000 in
theorem j_X1_findParts_7 (C : cx p s m args meth c cX1_findParts 3 none RX1 G) (hC : clo I) (h0 : I (11, 0, 0, 0)) {Q : Mem → Prop} : ∀ (n : Nat), ∀ (x1 : Int32) (M : Mem) (H : Heap) (locs : List Loc) (ls : Array Slot), w_X1_findParts_7 Q n x1 M → wd G I ad M H → va_S (fA I ad) s.heap H locs → lv_has ls 3 [(0, .ref (ad (11, 0, 0, 0))), (1, .int x1)] → W p l e rm_X1_findParts s m args below meth c H locs 0 0 (MQ below (qV G I ad Q) args s 0 0 (fA I ad)) (F0 m 7 ls []) := by
  have hx := C.1
  have hb := C.2.1
  have hown := C.2.2.2.1
  have hts := C.2.2.2.2.1
  intro n
  induction n with
  | zero =>
    intro x1 M H locs ls hw hP hS hl
    rw [w_X1_findParts_7] at hw
    exact hw.elim
  | succ n ih =>
    intro x1 M H locs ls hw hP hS hl
    rw [w_X1_findParts_7] at hw
    refine lv_iload_n (pc := 7) hx hb dX1_findParts_7 rfl (lv_at hl 1 rfl) ?_
    refine lv_if_lt (pc := 8) (tgt := 144) hx hb dX1_findParts_8 (by decide) (fun h => ?_) (fun h => ?_)
    · replace hw := if_t h hw
      exact r_vret (pc := 144) C hP hS hw dX1_findParts_144
    · replace hw := if_f h hw
      refine lv_aload_n (pc := 11) hx hb dX1_findParts_11 rfl (lv_at hl 0 rfl) ?_
      refine gf_180 (pc := 12) C hP h0 dX1_findParts_12 ?_
      refine lv_iload_n (pc := 15) hx hb dX1_findParts_15 rfl (lv_at hl 1 rfl) ?_
      refine r_ialdK (pc := 16) (n := 60) (k := x1.toNatClampNeg) C hP (cl_11_1 hC h0) (fun _ _ _ _ => rfl) hw.1 rfl dX1_findParts_16 ?_
      replace hw := hw.2
      refine lv_topi (fun x2_17 ex2_17 => ?_)
      replace hw := hw x2_17 ex2_17
      refine lv_istore_n (pc := 17) (lv' := [(2, .int x2_17), (0, .ref (ad (11, 0, 0, 0))), (1, .int x1)]) hx hb dX1_findParts_17 rfl hl (by decide) rfl (fun ls hl => ?_)
      refine lv_aload_n (pc := 18) hx hb dX1_findParts_18 rfl (lv_at hl 1 rfl) ?_
      refine gf_187 (pc := 19) C hP h0 dX1_findParts_19 ?_
      refine lv_iload_n (pc := 22) hx hb dX1_findParts_22 rfl (lv_at hl 2 rfl) ?_
      refine lv_aload_n (pc := 23) hx hb dX1_findParts_23 rfl (lv_at hl 1 rfl) ?_
      refine gf_193 (pc := 24) C hP h0 dX1_findParts_24 ?_
      refine lv_iload_n (pc := 27) hx hb dX1_findParts_27 rfl (lv_at hl 2 rfl) ?_
      refine lv_iconst (pc := 28) (v := (1 : Int32)) hx hb dX1_findParts_28 (by decide) ?_
      refine lv_iadd (pc := 29) hx hb dX1_findParts_29 ?_
      refine r_cNI (pc := 30) (rest := [.int x1, .ref (ad (14, 0, 0, 0))]) (As := [.ref (ad (16, 0, 0, 0)), .int (x1 + (1 : Int32))]) C hl.1 hP hS (k_X8_at l G hC (cl_11_5 hC h0) (fun _ _ _ _ => rfl) hw) (List.mem_of_getElem? (i := 2) rfl) mw_453 mw_56 mw_454 ⟨rfl, rfl⟩ hd_X8_at rfl rfl ⟨Nat.le_of_ble_eq_true rfl, Nat.le_of_ble_eq_true rfl⟩ (Nat.le_of_ble_eq_true rfl) ⟨Nat.zero_le _, Nat.zero_le _⟩ dX1_findParts_30 (fun r30 M30 H locs hw hP hS => ?_)
      refine r_iastK (pc := 33) (n := 60) (k := x1.toNatClampNeg) C hP hS (cl_11_3 hC h0) (fun _ _ _ _ => rfl) hw.1 rfl dX1_findParts_33 (fun H locs hP hS => ?_)
      replace hw := hw.2
      refine lv_aload_n (pc := 34) hx hb dX1_findParts_34 rfl (lv_at hl 1 rfl) ?_
      refine gf_190 (pc := 35) C hP h0 dX1_findParts_35 ?_
      refine lv_iload_n (pc := 38) hx hb dX1_findParts_38 rfl (lv_at hl 2 rfl) ?_
      refine lv_aload_n (pc := 39) hx hb dX1_findParts_39 rfl (lv_at hl 1 rfl) ?_
      refine lv_iload_n (pc := 40) hx hb dX1_findParts_40 rfl (lv_at hl 2 rfl) ?_
      refine r_cVI (pc := 41) (rest := [.int x1, .ref (ad (15, 0, 0, 0))]) (As := [.int x1]) C hl.1 hP hS (k_X1_numberAt l G hC h0 hw) h0 rfl rfl mw_455 mw_457 mw_9 mw_60 mw_458 ⟨rfl, rfl⟩ hd_X1_numberAt rfl rfl ⟨Nat.le_of_ble_eq_true rfl, Nat.le_of_ble_eq_true rfl⟩ (Nat.le_of_ble_eq_true rfl) ⟨Nat.zero_le _, Nat.zero_le _⟩ dX1_findParts_41 (fun r41 M41 H locs hw hP hS => ?_)
      refine r_iastK (pc := 44) (n := 60) (k := x1.toNatClampNeg) C hP hS (cl_11_4 hC h0) (fun _ _ _ _ => rfl) hw.1 rfl dX1_findParts_44 (fun H locs hP hS => ?_)
      replace hw := hw.2
      refine lv_iload_n (pc := 45) hx hb dX1_findParts_45 rfl (lv_at hl 0 rfl) ?_
      refine r_cNI (pc := 46) (rest := []) (As := [.int x2_17]) C hl.1 hP hS (k_X8_hasSecond l G hC  hw) (List.mem_of_getElem? (i := 3) rfl) mw_464 mw_56 mw_465 ⟨rfl, rfl⟩ hd_X8_hasSecond rfl rfl ⟨Nat.le_of_ble_eq_true rfl, Nat.le_of_ble_eq_true rfl⟩ (Nat.le_of_ble_eq_true rfl) ⟨Nat.zero_le _, Nat.zero_le _⟩ dX1_findParts_46 (fun r46 M46 H locs hw hP hS => ?_)
      refine lv_if_eq (pc := 49) (tgt := 74) hx hb dX1_findParts_49 (by decide) (fun h => ?_) (fun h => ?_)
      · replace hw := if_t h hw
        refine lv_iload_n (pc := 74) hx hb dX1_findParts_74 rfl (lv_at hl 0 rfl) ?_
        refine lv_bipush (pc := 75) (v := (126 : Int32)) hx hb dX1_findParts_75 (by decide) ?_
        refine lv_icmp_eq (pc := 77) (tgt := 98) hx hb dX1_findParts_77 (by decide) (fun h => ?_) (fun h => ?_)
        · replace hw := if_t h hw
          refine lv_aload_n (pc := 98) hx hb dX1_findParts_98 rfl (lv_at hl 1 rfl) ?_
          refine gf_193 (pc := 99) C hP h0 dX1_findParts_99 ?_
          refine lv_iload_n (pc := 102) hx hb dX1_findParts_102 rfl (lv_at hl 2 rfl) ?_
          refine lv_aload_n (pc := 103) hx hb dX1_findParts_103 rfl (lv_at hl 1 rfl) ?_
          refine gf_193 (pc := 104) C hP h0 dX1_findParts_104 ?_
          refine lv_iload_n (pc := 107) hx hb dX1_findParts_107 rfl (lv_at hl 2 rfl) ?_
          refine lv_iconst (pc := 108) (v := (1 : Int32)) hx hb dX1_findParts_108 (by decide) ?_
          refine lv_iadd (pc := 109) hx hb dX1_findParts_109 ?_
          refine r_cNI (pc := 110) (rest := [.int x1, .ref (ad (16, 0, 0, 0))]) (As := [.ref (ad (16, 0, 0, 0)), .int (x1 + (1 : Int32))]) C hl.1 hP hS (k_X8_at l G hC (cl_11_5 hC h0) (fun _ _ _ _ => rfl) hw) (List.mem_of_getElem? (i := 2) rfl) mw_453 mw_56 mw_454 ⟨rfl, rfl⟩ hd_X8_at rfl rfl ⟨Nat.le_of_ble_eq_true rfl, Nat.le_of_ble_eq_true rfl⟩ (Nat.le_of_ble_eq_true rfl) ⟨Nat.zero_le _, Nat.zero_le _⟩ dX1_findParts_110 (fun r110 M110 H locs hw hP hS => ?_)
          refine r_iastK (pc := 113) (n := 60) (k := x1.toNatClampNeg) C hP hS (cl_11_5 hC h0) (fun _ _ _ _ => rfl) hw.1 rfl dX1_findParts_113 (fun H locs hP hS => ?_)
          replace hw := hw.2
          refine lv_goto (pc := 114) (tgt := 138) hx hb dX1_findParts_114 (by decide) ?_
          refine lv_iinc (pc := 138) (v := x1 + (-1)) (lv' := [(1, .int (x1 + (-1))), (2, .int x2_17), (0, .ref (ad (11, 0, 0, 0)))]) hx hb dX1_findParts_138 hl (k := 2) rfl rfl (by decide) rfl (fun ls hl => ?_)
          refine lv_goto (pc := 141) (tgt := 7) hx hb dX1_findParts_141 (by decide) ?_
          exact ih (x1 + (-1)) (mu M110 (16, 0, 0, 0) (x1.toNatClampNeg) r110) _ _ _ hw hP hS (lv_sub hl [2, 0] rfl)
        · replace hw := if_f h hw
          refine lv_iload_n (pc := 80) hx hb dX1_findParts_80 rfl (lv_at hl 0 rfl) ?_
          refine lv_bipush (pc := 81) (v := (121 : Int32)) hx hb dX1_findParts_81 (by decide) ?_
          refine lv_icmp_eq (pc := 83) (tgt := 98) hx hb dX1_findParts_83 (by decide) (fun h => ?_) (fun h => ?_)
          · replace hw := if_t h hw
            refine lv_aload_n (pc := 98) hx hb dX1_findParts_98 rfl (lv_at hl 1 rfl) ?_
            refine gf_193 (pc := 99) C hP h0 dX1_findParts_99 ?_
            refine lv_iload_n (pc := 102) hx hb dX1_findParts_102 rfl (lv_at hl 2 rfl) ?_
            refine lv_aload_n (pc := 103) hx hb dX1_findParts_103 rfl (lv_at hl 1 rfl) ?_
            refine gf_193 (pc := 104) C hP h0 dX1_findParts_104 ?_
            refine lv_iload_n (pc := 107) hx hb dX1_findParts_107 rfl (lv_at hl 2 rfl) ?_
            refine lv_iconst (pc := 108) (v := (1 : Int32)) hx hb dX1_findParts_108 (by decide) ?_
            refine lv_iadd (pc := 109) hx hb dX1_findParts_109 ?_
            refine r_cNI (pc := 110) (rest := [.int x1, .ref (ad (16, 0, 0, 0))]) (As := [.ref (ad (16, 0, 0, 0)), .int (x1 + (1 : Int32))]) C hl.1 hP hS (k_X8_at l G hC (cl_11_5 hC h0) (fun _ _ _ _ => rfl) hw) (List.mem_of_getElem? (i := 2) rfl) mw_453 mw_56 mw_454 ⟨rfl, rfl⟩ hd_X8_at rfl rfl ⟨Nat.le_of_ble_eq_true rfl, Nat.le_of_ble_eq_true rfl⟩ (Nat.le_of_ble_eq_true rfl) ⟨Nat.zero_le _, Nat.zero_le _⟩ dX1_findParts_110 (fun r110 M110 H locs hw hP hS => ?_)
            refine r_iastK (pc := 113) (n := 60) (k := x1.toNatClampNeg) C hP hS (cl_11_5 hC h0) (fun _ _ _ _ => rfl) hw.1 rfl dX1_findParts_113 (fun H locs hP hS => ?_)
            replace hw := hw.2
            refine lv_goto (pc := 114) (tgt := 138) hx hb dX1_findParts_114 (by decide) ?_
            refine lv_iinc (pc := 138) (v := x1 + (-1)) (lv' := [(1, .int (x1 + (-1))), (2, .int x2_17), (0, .ref (ad (11, 0, 0, 0)))]) hx hb dX1_findParts_138 hl (k := 2) rfl rfl (by decide) rfl (fun ls hl => ?_)
            refine lv_goto (pc := 141) (tgt := 7) hx hb dX1_findParts_141 (by decide) ?_
            exact ih (x1 + (-1)) (mu M110 (16, 0, 0, 0) (x1.toNatClampNeg) r110) _ _ _ hw hP hS (lv_sub hl [2, 0] rfl)
          · replace hw := if_f h hw
            refine lv_iload_n (pc := 86) hx hb dX1_findParts_86 rfl (lv_at hl 0 rfl) ?_
            refine lv_bipush (pc := 87) (v := (33 : Int32)) hx hb dX1_findParts_87 (by decide) ?_
            refine lv_icmp_eq (pc := 89) (tgt := 98) hx hb dX1_findParts_89 (by decide) (fun h => ?_) (fun h => ?_)
            · replace hw := if_t h hw
              refine lv_aload_n (pc := 98) hx hb dX1_findParts_98 rfl (lv_at hl 1 rfl) ?_
              refine gf_193 (pc := 99) C hP h0 dX1_findParts_99 ?_
              refine lv_iload_n (pc := 102) hx hb dX1_findParts_102 rfl (lv_at hl 2 rfl) ?_
              refine lv_aload_n (pc := 103) hx hb dX1_findParts_103 rfl (lv_at hl 1 rfl) ?_
              refine gf_193 (pc := 104) C hP h0 dX1_findParts_104 ?_
              refine lv_iload_n (pc := 107) hx hb dX1_findParts_107 rfl (lv_at hl 2 rfl) ?_
              refine lv_iconst (pc := 108) (v := (1 : Int32)) hx hb dX1_findParts_108 (by decide) ?_
              refine lv_iadd (pc := 109) hx hb dX1_findParts_109 ?_
              refine r_cNI (pc := 110) (rest := [.int x1, .ref (ad (16, 0, 0, 0))]) (As := [.ref (ad (16, 0, 0, 0)), .int (x1 + (1 : Int32))]) C hl.1 hP hS (k_X8_at l G hC (cl_11_5 hC h0) (fun _ _ _ _ => rfl) hw) (List.mem_of_getElem? (i := 2) rfl) mw_453 mw_56 mw_454 ⟨rfl, rfl⟩ hd_X8_at rfl rfl ⟨Nat.le_of_ble_eq_true rfl, Nat.le_of_ble_eq_true rfl⟩ (Nat.le_of_ble_eq_true rfl) ⟨Nat.zero_le _, Nat.zero_le _⟩ dX1_findParts_110 (fun r110 M110 H locs hw hP hS => ?_)
              refine r_iastK (pc := 113) (n := 60) (k := x1.toNatClampNeg) C hP hS (cl_11_5 hC h0) (fun _ _ _ _ => rfl) hw.1 rfl dX1_findParts_113 (fun H locs hP hS => ?_)
              replace hw := hw.2
              refine lv_goto (pc := 114) (tgt := 138) hx hb dX1_findParts_114 (by decide) ?_
              refine lv_iinc (pc := 138) (v := x1 + (-1)) (lv' := [(1, .int (x1 + (-1))), (2, .int x2_17), (0, .ref (ad (11, 0, 0, 0)))]) hx hb dX1_findParts_138 hl (k := 2) rfl rfl (by decide) rfl (fun ls hl => ?_)
              refine lv_goto (pc := 141) (tgt := 7) hx hb dX1_findParts_141 (by decide) ?_
              exact ih (x1 + (-1)) (mu M110 (16, 0, 0, 0) (x1.toNatClampNeg) r110) _ _ _ hw hP hS (lv_sub hl [2, 0] rfl)
            · replace hw := if_f h hw
              refine lv_iload_n (pc := 92) hx hb dX1_findParts_92 rfl (lv_at hl 0 rfl) ?_
              refine lv_bipush (pc := 93) (v := (109 : Int32)) hx hb dX1_findParts_93 (by decide) ?_
              refine lv_icmp_ne (pc := 95) (tgt := 117) hx hb dX1_findParts_95 (by decide) (fun h => ?_) (fun h => ?_)
              · replace hw := if_f h hw
                refine lv_aload_n (pc := 117) hx hb dX1_findParts_117 rfl (lv_at hl 1 rfl) ?_
                refine gf_193 (pc := 118) C hP h0 dX1_findParts_118 ?_
                refine lv_iload_n (pc := 121) hx hb dX1_findParts_121 rfl (lv_at hl 2 rfl) ?_
                refine lv_iload_n (pc := 122) hx hb dX1_findParts_122 rfl (lv_at hl 0 rfl) ?_
                refine lv_bipush (pc := 123) (v := (35 : Int32)) hx hb dX1_findParts_123 (by decide) ?_
                refine lv_icmp_ne (pc := 125) (tgt := 134) hx hb dX1_findParts_125 (by decide) (fun h => ?_) (fun h => ?_)
                · replace hw := if_f h hw
                  refine lv_iload_n (pc := 134) hx hb dX1_findParts_134 rfl (lv_at hl 2 rfl) ?_
                  refine lv_iconst (pc := 135) (v := (1 : Int32)) hx hb dX1_findParts_135 (by decide) ?_
                  refine lv_iadd (pc := 136) hx hb dX1_findParts_136 ?_
                  refine r_iastK (pc := 137) (n := 60) (k := x1.toNatClampNeg) C hP hS (cl_11_5 hC h0) (fun _ _ _ _ => rfl) hw.1 rfl dX1_findParts_137 (fun H locs hP hS => ?_)
                  replace hw := hw.2
                  refine lv_iinc (pc := 138) (v := x1 + (-1)) (lv' := [(1, .int (x1 + (-1))), (2, .int x2_17), (0, .ref (ad (11, 0, 0, 0)))]) hx hb dX1_findParts_138 hl (k := 2) rfl rfl (by decide) rfl (fun ls hl => ?_)
                  refine lv_goto (pc := 141) (tgt := 7) hx hb dX1_findParts_141 (by decide) ?_
                  exact ih (x1 + (-1)) (mu M46 (16, 0, 0, 0) (x1.toNatClampNeg) (x1 + (1 : Int32))) _ _ _ hw hP hS (lv_sub hl [2, 0] rfl)
                · replace hw := if_t h hw
                  refine lv_iload_n (pc := 128) hx hb dX1_findParts_128 rfl (lv_at hl 2 rfl) ?_
                  refine lv_iconst (pc := 129) (v := (4 : Int32)) hx hb dX1_findParts_129 (by decide) ?_
                  refine lv_iadd (pc := 130) hx hb dX1_findParts_130 ?_
                  refine lv_goto (pc := 131) (tgt := 137) hx hb dX1_findParts_131 (by decide) ?_
                  refine r_iastK (pc := 137) (n := 60) (k := x1.toNatClampNeg) C hP hS (cl_11_5 hC h0) (fun _ _ _ _ => rfl) hw.1 rfl dX1_findParts_137 (fun H locs hP hS => ?_)
                  replace hw := hw.2
                  refine lv_iinc (pc := 138) (v := x1 + (-1)) (lv' := [(1, .int (x1 + (-1))), (2, .int x2_17), (0, .ref (ad (11, 0, 0, 0)))]) hx hb dX1_findParts_138 hl (k := 2) rfl rfl (by decide) rfl (fun ls hl => ?_)
                  refine lv_goto (pc := 141) (tgt := 7) hx hb dX1_findParts_141 (by decide) ?_
                  exact ih (x1 + (-1)) (mu M46 (16, 0, 0, 0) (x1.toNatClampNeg) (x1 + (4 : Int32))) _ _ _ hw hP hS (lv_sub hl [2, 0] rfl)
              · replace hw := if_t h hw
                refine lv_aload_n (pc := 98) hx hb dX1_findParts_98 rfl (lv_at hl 1 rfl) ?_
                refine gf_193 (pc := 99) C hP h0 dX1_findParts_99 ?_
                refine lv_iload_n (pc := 102) hx hb dX1_findParts_102 rfl (lv_at hl 2 rfl) ?_
                refine lv_aload_n (pc := 103) hx hb dX1_findParts_103 rfl (lv_at hl 1 rfl) ?_
                refine gf_193 (pc := 104) C hP h0 dX1_findParts_104 ?_
                refine lv_iload_n (pc := 107) hx hb dX1_findParts_107 rfl (lv_at hl 2 rfl) ?_
                refine lv_iconst (pc := 108) (v := (1 : Int32)) hx hb dX1_findParts_108 (by decide) ?_
                refine lv_iadd (pc := 109) hx hb dX1_findParts_109 ?_
                refine r_cNI (pc := 110) (rest := [.int x1, .ref (ad (16, 0, 0, 0))]) (As := [.ref (ad (16, 0, 0, 0)), .int (x1 + (1 : Int32))]) C hl.1 hP hS (k_X8_at l G hC (cl_11_5 hC h0) (fun _ _ _ _ => rfl) hw) (List.mem_of_getElem? (i := 2) rfl) mw_453 mw_56 mw_454 ⟨rfl, rfl⟩ hd_X8_at rfl rfl ⟨Nat.le_of_ble_eq_true rfl, Nat.le_of_ble_eq_true rfl⟩ (Nat.le_of_ble_eq_true rfl) ⟨Nat.zero_le _, Nat.zero_le _⟩ dX1_findParts_110 (fun r110 M110 H locs hw hP hS => ?_)
                refine r_iastK (pc := 113) (n := 60) (k := x1.toNatClampNeg) C hP hS (cl_11_5 hC h0) (fun _ _ _ _ => rfl) hw.1 rfl dX1_findParts_113 (fun H locs hP hS => ?_)
                replace hw := hw.2
                refine lv_goto (pc := 114) (tgt := 138) hx hb dX1_findParts_114 (by decide) ?_
                refine lv_iinc (pc := 138) (v := x1 + (-1)) (lv' := [(1, .int (x1 + (-1))), (2, .int x2_17), (0, .ref (ad (11, 0, 0, 0)))]) hx hb dX1_findParts_138 hl (k := 2) rfl rfl (by decide) rfl (fun ls hl => ?_)
                refine lv_goto (pc := 141) (tgt := 7) hx hb dX1_findParts_141 (by decide) ?_
                exact ih (x1 + (-1)) (mu M110 (16, 0, 0, 0) (x1.toNatClampNeg) r110) _ _ _ hw hP hS (lv_sub hl [2, 0] rfl)
      · replace hw := if_f h hw
        refine lv_aload_n (pc := 52) hx hb dX1_findParts_52 rfl (lv_at hl 1 rfl) ?_
        refine gf_193 (pc := 53) C hP h0 dX1_findParts_53 ?_
        refine lv_iload_n (pc := 56) hx hb dX1_findParts_56 rfl (lv_at hl 2 rfl) ?_
        refine lv_aload_n (pc := 57) hx hb dX1_findParts_57 rfl (lv_at hl 1 rfl) ?_
        refine gf_193 (pc := 58) C hP h0 dX1_findParts_58 ?_
        refine lv_aload_n (pc := 61) hx hb dX1_findParts_61 rfl (lv_at hl 1 rfl) ?_
        refine gf_187 (pc := 62) C hP h0 dX1_findParts_62 ?_
        refine lv_iload_n (pc := 65) hx hb dX1_findParts_65 rfl (lv_at hl 2 rfl) ?_
        refine r_ialdK (pc := 66) (n := 60) (k := x1.toNatClampNeg) C hP (cl_11_3 hC h0) (fun _ _ _ _ => rfl) hw.1 rfl dX1_findParts_66 ?_
        replace hw := hw.2
        refine r_cNI (pc := 67) (rest := [.int x1, .ref (ad (16, 0, 0, 0))]) (As := [.ref (ad (16, 0, 0, 0)), .int (M46.1 (14, 0, 0, 0) x1.toNatClampNeg)]) C hl.1 hP hS (k_X8_at l G hC (cl_11_5 hC h0) (fun _ _ _ _ => rfl) hw) (List.mem_of_getElem? (i := 2) rfl) mw_453 mw_56 mw_454 ⟨rfl, rfl⟩ hd_X8_at rfl rfl ⟨Nat.le_of_ble_eq_true rfl, Nat.le_of_ble_eq_true rfl⟩ (Nat.le_of_ble_eq_true rfl) ⟨Nat.zero_le _, Nat.zero_le _⟩ dX1_findParts_67 (fun r67 M67 H locs hw hP hS => ?_)
        refine r_iastK (pc := 70) (n := 60) (k := x1.toNatClampNeg) C hP hS (cl_11_5 hC h0) (fun _ _ _ _ => rfl) hw.1 rfl dX1_findParts_70 (fun H locs hP hS => ?_)
        replace hw := hw.2
        refine lv_goto (pc := 71) (tgt := 138) hx hb dX1_findParts_71 (by decide) ?_
        refine lv_iinc (pc := 138) (v := x1 + (-1)) (lv' := [(1, .int (x1 + (-1))), (2, .int x2_17), (0, .ref (ad (11, 0, 0, 0)))]) hx hb dX1_findParts_138 hl (k := 2) rfl rfl (by decide) rfl (fun ls hl => ?_)
        refine lv_goto (pc := 141) (tgt := 7) hx hb dX1_findParts_141 (by decide) ?_
        exact ih (x1 + (-1)) (mu M67 (16, 0, 0, 0) (x1.toNatClampNeg) r67) _ _ _ hw hP hS (lv_sub hl [2, 0] rfl)
set_option maxHeartbeats 4000000 in
set_option maxRecDepth 100000 in
theorem j_X1_findParts_0 (C : cx p s m args meth c cX1_findParts 3 none RX1 G) (hC : clo I) (h0 : I (11, 0, 0, 0)) {Q : Mem → Prop} : ∀ (M : Mem) (H : Heap) (locs : List Loc) (ls : Array Slot), w_X1_findParts Q M → wd G I ad M H → va_S (fA I ad) s.heap H locs → lv_has ls 3 [(0, .ref (ad (11, 0, 0, 0)))] → W p l e rm_X1_findParts s m args below meth c H locs 0 0 (MQ below (qV G I ad Q) args s 0 0 (fA I ad)) (F0 m 0 ls []) := by
  have hx := C.1
  have hb := C.2.1
  have hown := C.2.2.2.1
  have hts := C.2.2.2.2.1
  intro M H locs ls hw hP hS hl
  unfold w_X1_findParts at hw
  refine lv_aload_n (pc := 0) hx hb dX1_findParts_0 rfl (lv_at hl 0 rfl) ?_
  refine gf_176 (pc := 1) C hP h0 dX1_findParts_1 ?_
  refine lv_iconst (pc := 4) (v := (1 : Int32)) hx hb dX1_findParts_4 (by decide) ?_
  refine lv_isub (pc := 5) hx hb dX1_findParts_5 ?_
  refine lv_topi (fun x1_6 ex1_6 => ?_)
  replace hw := hw x1_6 ex1_6
  refine lv_istore_n (pc := 6) (lv' := [(1, .int x1_6), (0, .ref (ad (11, 0, 0, 0)))]) hx hb dX1_findParts_6 rfl hl (by decide) rfl (fun ls hl => ?_)
  obtain ⟨n0, hw⟩ := hw
  exact j_X1_findParts_7 C hC h0 n0 x1_6 M _ _ _ hw hP hS (lv_sub hl [1, 0] rfl)
end
theorem k_X1_findParts (l : Launch) (G : GG) {I : ix → Prop} {ad : ix → Nat} (hC : clo I) (h0 : I (11, 0, 0, 0)) {Q : Mem → Prop} {M : Mem} (hw : w_X1_findParts Q M) : Met l yX1_findParts (wW yX1_findParts cX1_findParts 3 none) rm_X1_findParts (va_Pc [.ref (ad (11, 0, 0, 0))] (fun U => wd G I ad M U.heap ∧ wK G U)) (qV G I ad Q) 0 0 (fA I ad) := met_of (by decide +kernel) (Nat.le_of_ble_eq_true rfl) (fun p e s m below meth c C hP hS ls hl => j_X1_findParts_0 C hC h0 _ _ _ _ hw hP hS hl)
section
variable {p : Program} {l : Launch} {e : Env} {s : State} {m : MethodId} {args : Array Value} {below : List Frame} {meth : Method} {c : Code} 
variable  {G : GG} {I : ix → Prop} {ad : ix → Nat}
set_option maxHeartbeats 4000000 in
set_option maxRecDepth 100000 in
theorem j_X1_beginsTruth_0 {a1 : Int32} (C : cx p s m args meth c cX1_beginsTruth 2 (some .boolean) RX1 G) (hC : clo I) (h0 : I (11, 0, 0, 0)) {Q : Int32 → Mem → Prop} : ∀ (M : Mem) (H : Heap) (locs : List Loc) (ls : Array Slot), w_X1_beginsTruth a1 Q M → wd G I ad M H → va_S (fA I ad) s.heap H locs → lv_has ls 2 [(0, .ref (ad (11, 0, 0, 0))), (1, .int a1)] → W p l e rm_X1_beginsTruth s m args below meth c H locs 0 0 (MQ below (qI G I ad Q) args s 0 0 (fA I ad)) (F0 m 0 ls []) := by
  have hx := C.1
  have hb := C.2.1
  have hown := C.2.2.2.1
  have hts := C.2.2.2.2.1
  intro M H locs ls hw hP hS hl
  unfold w_X1_beginsTruth at hw
  refine lv_iload_n (pc := 0) hx hb dX1_beginsTruth_0 rfl (lv_at hl 1 rfl) ?_
  by_cases hk0 : a1 = (33 : Int32)
  · replace hw := if_t hk0 hw
    refine lv_lookup (pc := 1) (tgt := 84) (off := 83) hx hb dX1_beginsTruth_1 (by decide) (by rw [hk0]; rfl) (by decide) ?_
    refine lv_aload_n (pc := 84) hx hb dX1_beginsTruth_84 rfl (lv_at hl 0 rfl) ?_
    refine lv_iconst (pc := 85) (v := (1 : Int32)) hx hb dX1_beginsTruth_85 (by decide) ?_
    refine r_cVV (pc := 86) (rest := []) (As := [.int (1 : Int32)]) C hl.1 hP hS (k_X1_await l G hC h0 hw) h0 rfl rfl mw_172 mw_174 mw_0 mw_60 mw_175 ⟨rfl, rfl⟩ hd_X1_await rfl rfl ⟨Nat.le_of_ble_eq_true rfl, Nat.le_of_ble_eq_true rfl⟩ (Nat.le_of_ble_eq_true rfl) ⟨Nat.zero_le _, Nat.zero_le _⟩ dX1_beginsTruth_86 (fun M86 H locs hw hP hS => ?_)
    refine lv_iconst (pc := 89) (v := (1 : Int32)) hx hb dX1_beginsTruth_89 (by decide) ?_
    exact r_zret (pc := 90) C hP hS (by decide) hw dX1_beginsTruth_90
  · replace hw := if_f hk0 hw
    by_cases hk1 : a1 = (38 : Int32)
    · replace hw := if_t hk1 hw
      refine lv_lookup (pc := 1) (tgt := 72) (off := 71) hx hb dX1_beginsTruth_1 (by decide) (by rw [hk1]; rfl) (by decide) ?_
      refine lv_aload_n (pc := 72) hx hb dX1_beginsTruth_72 rfl (lv_at hl 0 rfl) ?_
      refine lv_iconst (pc := 73) (v := (1 : Int32)) hx hb dX1_beginsTruth_73 (by decide) ?_
      refine r_cVV (pc := 74) (rest := []) (As := [.int (1 : Int32)]) C hl.1 hP hS (k_X1_await l G hC h0 hw) h0 rfl rfl mw_172 mw_174 mw_0 mw_60 mw_175 ⟨rfl, rfl⟩ hd_X1_await rfl rfl ⟨Nat.le_of_ble_eq_true rfl, Nat.le_of_ble_eq_true rfl⟩ (Nat.le_of_ble_eq_true rfl) ⟨Nat.zero_le _, Nat.zero_le _⟩ dX1_beginsTruth_74 (fun M74 H locs hw hP hS => ?_)
      refine lv_aload_n (pc := 77) hx hb dX1_beginsTruth_77 rfl (lv_at hl 0 rfl) ?_
      refine lv_iconst (pc := 78) (v := (1 : Int32)) hx hb dX1_beginsTruth_78 (by decide) ?_
      refine r_cVV (pc := 79) (rest := []) (As := [.int (1 : Int32)]) C hl.1 hP hS (k_X1_await l G hC h0 hw) h0 rfl rfl mw_172 mw_174 mw_0 mw_60 mw_175 ⟨rfl, rfl⟩ hd_X1_await rfl rfl ⟨Nat.le_of_ble_eq_true rfl, Nat.le_of_ble_eq_true rfl⟩ (Nat.le_of_ble_eq_true rfl) ⟨Nat.zero_le _, Nat.zero_le _⟩ dX1_beginsTruth_79 (fun M79 H locs hw hP hS => ?_)
      refine lv_iconst (pc := 82) (v := (1 : Int32)) hx hb dX1_beginsTruth_82 (by decide) ?_
      exact r_zret (pc := 83) C hP hS (by decide) hw dX1_beginsTruth_83
    · replace hw := if_f hk1 hw
      by_cases hk2 : a1 = (60 : Int32)
      · replace hw := if_t hk2 hw
        refine lv_lookup (pc := 1) (tgt := 60) (off := 59) hx hb dX1_beginsTruth_1 (by decide) (by rw [hk2]; rfl) (by decide) ?_
        refine lv_aload_n (pc := 60) hx hb dX1_beginsTruth_60 rfl (lv_at hl 0 rfl) ?_
        refine lv_iconst (pc := 61) (v := (2 : Int32)) hx hb dX1_beginsTruth_61 (by decide) ?_
        refine r_cVV (pc := 62) (rest := []) (As := [.int (2 : Int32)]) C hl.1 hP hS (k_X1_await l G hC h0 hw) h0 rfl rfl mw_172 mw_174 mw_0 mw_60 mw_175 ⟨rfl, rfl⟩ hd_X1_await rfl rfl ⟨Nat.le_of_ble_eq_true rfl, Nat.le_of_ble_eq_true rfl⟩ (Nat.le_of_ble_eq_true rfl) ⟨Nat.zero_le _, Nat.zero_le _⟩ dX1_beginsTruth_62 (fun M62 H locs hw hP hS => ?_)
        refine lv_aload_n (pc := 65) hx hb dX1_beginsTruth_65 rfl (lv_at hl 0 rfl) ?_
        refine lv_iconst (pc := 66) (v := (2 : Int32)) hx hb dX1_beginsTruth_66 (by decide) ?_
        refine r_cVV (pc := 67) (rest := []) (As := [.int (2 : Int32)]) C hl.1 hP hS (k_X1_await l G hC h0 hw) h0 rfl rfl mw_172 mw_174 mw_0 mw_60 mw_175 ⟨rfl, rfl⟩ hd_X1_await rfl rfl ⟨Nat.le_of_ble_eq_true rfl, Nat.le_of_ble_eq_true rfl⟩ (Nat.le_of_ble_eq_true rfl) ⟨Nat.zero_le _, Nat.zero_le _⟩ dX1_beginsTruth_67 (fun M67 H locs hw hP hS => ?_)
        refine lv_iconst (pc := 70) (v := (1 : Int32)) hx hb dX1_beginsTruth_70 (by decide) ?_
        exact r_zret (pc := 71) C hP hS (by decide) hw dX1_beginsTruth_71
      · replace hw := if_f hk2 hw
        by_cases hk3 : a1 = (61 : Int32)
        · replace hw := if_t hk3 hw
          refine lv_lookup (pc := 1) (tgt := 60) (off := 59) hx hb dX1_beginsTruth_1 (by decide) (by rw [hk3]; rfl) (by decide) ?_
          refine lv_aload_n (pc := 60) hx hb dX1_beginsTruth_60 rfl (lv_at hl 0 rfl) ?_
          refine lv_iconst (pc := 61) (v := (2 : Int32)) hx hb dX1_beginsTruth_61 (by decide) ?_
          refine r_cVV (pc := 62) (rest := []) (As := [.int (2 : Int32)]) C hl.1 hP hS (k_X1_await l G hC h0 hw) h0 rfl rfl mw_172 mw_174 mw_0 mw_60 mw_175 ⟨rfl, rfl⟩ hd_X1_await rfl rfl ⟨Nat.le_of_ble_eq_true rfl, Nat.le_of_ble_eq_true rfl⟩ (Nat.le_of_ble_eq_true rfl) ⟨Nat.zero_le _, Nat.zero_le _⟩ dX1_beginsTruth_62 (fun M62 H locs hw hP hS => ?_)
          refine lv_aload_n (pc := 65) hx hb dX1_beginsTruth_65 rfl (lv_at hl 0 rfl) ?_
          refine lv_iconst (pc := 66) (v := (2 : Int32)) hx hb dX1_beginsTruth_66 (by decide) ?_
          refine r_cVV (pc := 67) (rest := []) (As := [.int (2 : Int32)]) C hl.1 hP hS (k_X1_await l G hC h0 hw) h0 rfl rfl mw_172 mw_174 mw_0 mw_60 mw_175 ⟨rfl, rfl⟩ hd_X1_await rfl rfl ⟨Nat.le_of_ble_eq_true rfl, Nat.le_of_ble_eq_true rfl⟩ (Nat.le_of_ble_eq_true rfl) ⟨Nat.zero_le _, Nat.zero_le _⟩ dX1_beginsTruth_67 (fun M67 H locs hw hP hS => ?_)
          refine lv_iconst (pc := 70) (v := (1 : Int32)) hx hb dX1_beginsTruth_70 (by decide) ?_
          exact r_zret (pc := 71) C hP hS (by decide) hw dX1_beginsTruth_71
        · replace hw := if_f hk3 hw
          by_cases hk4 : a1 = (109 : Int32)
          · replace hw := if_t hk4 hw
            refine lv_lookup (pc := 1) (tgt := 91) (off := 90) hx hb dX1_beginsTruth_1 (by decide) (by rw [hk4]; rfl) (by decide) ?_
            refine lv_aload_n (pc := 91) hx hb dX1_beginsTruth_91 rfl (lv_at hl 0 rfl) ?_
            refine lv_iconst (pc := 92) (v := (3 : Int32)) hx hb dX1_beginsTruth_92 (by decide) ?_
            refine r_cVV (pc := 93) (rest := []) (As := [.int (3 : Int32)]) C hl.1 hP hS (k_X1_await l G hC h0 hw) h0 rfl rfl mw_172 mw_174 mw_0 mw_60 mw_175 ⟨rfl, rfl⟩ hd_X1_await rfl rfl ⟨Nat.le_of_ble_eq_true rfl, Nat.le_of_ble_eq_true rfl⟩ (Nat.le_of_ble_eq_true rfl) ⟨Nat.zero_le _, Nat.zero_le _⟩ dX1_beginsTruth_93 (fun M93 H locs hw hP hS => ?_)
            refine lv_iconst (pc := 96) (v := (1 : Int32)) hx hb dX1_beginsTruth_96 (by decide) ?_
            exact r_zret (pc := 97) C hP hS (by decide) hw dX1_beginsTruth_97
          · replace hw := if_f hk4 hw
            by_cases hk5 : a1 = (124 : Int32)
            · replace hw := if_t hk5 hw
              refine lv_lookup (pc := 1) (tgt := 72) (off := 71) hx hb dX1_beginsTruth_1 (by decide) (by rw [hk5]; rfl) (by decide) ?_
              refine lv_aload_n (pc := 72) hx hb dX1_beginsTruth_72 rfl (lv_at hl 0 rfl) ?_
              refine lv_iconst (pc := 73) (v := (1 : Int32)) hx hb dX1_beginsTruth_73 (by decide) ?_
              refine r_cVV (pc := 74) (rest := []) (As := [.int (1 : Int32)]) C hl.1 hP hS (k_X1_await l G hC h0 hw) h0 rfl rfl mw_172 mw_174 mw_0 mw_60 mw_175 ⟨rfl, rfl⟩ hd_X1_await rfl rfl ⟨Nat.le_of_ble_eq_true rfl, Nat.le_of_ble_eq_true rfl⟩ (Nat.le_of_ble_eq_true rfl) ⟨Nat.zero_le _, Nat.zero_le _⟩ dX1_beginsTruth_74 (fun M74 H locs hw hP hS => ?_)
              refine lv_aload_n (pc := 77) hx hb dX1_beginsTruth_77 rfl (lv_at hl 0 rfl) ?_
              refine lv_iconst (pc := 78) (v := (1 : Int32)) hx hb dX1_beginsTruth_78 (by decide) ?_
              refine r_cVV (pc := 79) (rest := []) (As := [.int (1 : Int32)]) C hl.1 hP hS (k_X1_await l G hC h0 hw) h0 rfl rfl mw_172 mw_174 mw_0 mw_60 mw_175 ⟨rfl, rfl⟩ hd_X1_await rfl rfl ⟨Nat.le_of_ble_eq_true rfl, Nat.le_of_ble_eq_true rfl⟩ (Nat.le_of_ble_eq_true rfl) ⟨Nat.zero_le _, Nat.zero_le _⟩ dX1_beginsTruth_79 (fun M79 H locs hw hP hS => ?_)
              refine lv_iconst (pc := 82) (v := (1 : Int32)) hx hb dX1_beginsTruth_82 (by decide) ?_
              exact r_zret (pc := 83) C hP hS (by decide) hw dX1_beginsTruth_83
            · replace hw := if_f hk5 hw
              refine lv_lookup (pc := 1) (tgt := 98) (off := 97) hx hb dX1_beginsTruth_1 (by decide) (by show Op.lookupswitch.offset [(33, 83), (38, 71), (60, 59), (61, 59), (109, 90), (124, 71)] 97 _ = _; rw [lv_osw (a := 33) hk0 rfl, lv_osw (a := 38) hk1 rfl, lv_osw (a := 60) hk2 rfl, lv_osw (a := 61) hk3 rfl, lv_osw (a := 109) hk4 rfl, lv_osw (a := 124) hk5 rfl]; rfl) (by decide) ?_
              refine lv_iconst (pc := 98) (v := (0 : Int32)) hx hb dX1_beginsTruth_98 (by decide) ?_
              exact r_zret (pc := 99) C hP hS (by decide) hw dX1_beginsTruth_99
end
theorem k_X1_beginsTruth (l : Launch) (G : GG) {I : ix → Prop} {ad : ix → Nat} (hC : clo I) {a1 : Int32} (h0 : I (11, 0, 0, 0)) {Q : Int32 → Mem → Prop} {M : Mem} (hw : w_X1_beginsTruth a1 Q M) : Met l yX1_beginsTruth (wW yX1_beginsTruth cX1_beginsTruth 2 (some .boolean)) rm_X1_beginsTruth (va_Pc [.ref (ad (11, 0, 0, 0)), .int a1] (fun U => wd G I ad M U.heap ∧ wK G U)) (qI G I ad Q) 0 0 (fA I ad) := met_of (by decide +kernel) (Nat.le_of_ble_eq_true rfl) (fun p e s m below meth c C hP hS ls hl => j_X1_beginsTruth_0 C hC h0 _ _ _ _ hw hP hS hl)
section
variable {p : Program} {l : Launch} {e : Env} {s : State} {m : MethodId} {args : Array Value} {below : List Frame} {meth : Method} {c : Code} 
variable  {G : GG} {I : ix → Prop} {ad : ix → Nat}
set_option maxHeartbeats 4000000 in
set_option maxRecDepth 100000 in
theorem j_X8_isLetter_0 {a0 : Int32} (C : cx p s m args meth c cX8_isLetter 1 (some .boolean) RX8 G) (hC : clo I) {Q : Int32 → Mem → Prop} : ∀ (M : Mem) (H : Heap) (locs : List Loc) (ls : Array Slot), w_X8_isLetter a0 Q M → wd G I ad M H → va_S (fA I ad) s.heap H locs → lv_has ls 1 [(0, .int a0)] → W p l e rm_X8_isLetter s m args below meth c H locs 0 0 (MQ below (qI G I ad Q) args s 0 0 (fA I ad)) (F0 m 0 ls []) := by
  have hx := C.1
  have hb := C.2.1
  have hown := C.2.2.2.1
  have hts := C.2.2.2.2.1
  intro M H locs ls hw hP hS hl
  unfold w_X8_isLetter at hw
  refine lv_iload_n (pc := 0) hx hb dX8_isLetter_0 rfl (lv_at hl 0 rfl) ?_
  refine lv_bipush (pc := 1) (v := (97 : Int32)) hx hb dX8_isLetter_1 (by decide) ?_
  refine lv_icmp_lt (pc := 3) (tgt := 16) hx hb dX8_isLetter_3 (by decide) (fun h => ?_) (fun h => ?_)
  · replace hw := if_t h hw
    refine lv_iconst (pc := 16) (v := (0 : Int32)) hx hb dX8_isLetter_16 (by decide) ?_
    exact r_zret (pc := 17) C hP hS (by decide) hw dX8_isLetter_17
  · replace hw := if_f h hw
    refine lv_iload_n (pc := 6) hx hb dX8_isLetter_6 rfl (lv_at hl 0 rfl) ?_
    refine lv_bipush (pc := 7) (v := (100 : Int32)) hx hb dX8_isLetter_7 (by decide) ?_
    refine lv_icmp_gt (pc := 9) (tgt := 16) hx hb dX8_isLetter_9 (by decide) (fun h => ?_) (fun h => ?_)
    · replace hw := if_t h hw
      refine lv_iconst (pc := 16) (v := (0 : Int32)) hx hb dX8_isLetter_16 (by decide) ?_
      exact r_zret (pc := 17) C hP hS (by decide) hw dX8_isLetter_17
    · replace hw := if_f h hw
      refine lv_iconst (pc := 12) (v := (1 : Int32)) hx hb dX8_isLetter_12 (by decide) ?_
      refine lv_goto (pc := 13) (tgt := 17) hx hb dX8_isLetter_13 (by decide) ?_
      exact r_zret (pc := 17) C hP hS (by decide) hw dX8_isLetter_17
end
theorem k_X8_isLetter (l : Launch) (G : GG) {I : ix → Prop} {ad : ix → Nat} (hC : clo I) {a0 : Int32} {Q : Int32 → Mem → Prop} {M : Mem} (hw : w_X8_isLetter a0 Q M) : Met l yX8_isLetter (wW yX8_isLetter cX8_isLetter 1 (some .boolean)) rm_X8_isLetter (va_Pc [.int a0] (fun U => wd G I ad M U.heap ∧ wK G U)) (qI G I ad Q) 0 0 (fA I ad) := met_of (by decide +kernel) (Nat.le_of_ble_eq_true rfl) (fun p e s m below meth c C hP hS ls hl => j_X8_isLetter_0 C hC  _ _ _ _ hw hP hS hl)
section
variable {p : Program} {l : Launch} {e : Env} {s : State} {m : MethodId} {args : Array Value} {below : List Frame} {meth : Method} {c : Code} 
variable  {G : GG} {I : ix → Prop} {ad : ix → Nat}
set_option maxHeartbeats 4000000 in
set_option maxRecDepth 100000 in
theorem j_X1_beginsTerm_0 {a1 : Int32} (C : cx p s m args meth c cX1_beginsTerm 2 (some .boolean) RX1 G) (hC : clo I) (h0 : I (11, 0, 0, 0)) {Q : Int32 → Mem → Prop} : ∀ (M : Mem) (H : Heap) (locs : List Loc) (ls : Array Slot), w_X1_beginsTerm a1 Q M → wd G I ad M H → va_S (fA I ad) s.heap H locs → lv_has ls 2 [(0, .ref (ad (11, 0, 0, 0))), (1, .int a1)] → W p l e rm_X1_beginsTerm s m args below meth c H locs 0 0 (MQ below (qI G I ad Q) args s 0 0 (fA I ad)) (F0 m 0 ls []) := by
  have hx := C.1
  have hb := C.2.1
  have hown := C.2.2.2.1
  have hts := C.2.2.2.2.1
  intro M H locs ls hw hP hS hl
  unfold w_X1_beginsTerm at hw
  refine lv_iload_n (pc := 0) hx hb dX1_beginsTerm_0 rfl (lv_at hl 1 rfl) ?_
  by_cases hk0 : a1 = (35 : Int32)
  · replace hw := if_t hk0 hw
    refine lv_lookup (pc := 1) (tgt := 68) (off := 67) hx hb dX1_beginsTerm_1 (by decide) (by rw [hk0]; rfl) (by decide) ?_
    refine lv_aload_n (pc := 68) hx hb dX1_beginsTerm_68 rfl (lv_at hl 0 rfl) ?_
    refine lv_iconst (pc := 69) (v := (4 : Int32)) hx hb dX1_beginsTerm_69 (by decide) ?_
    refine r_cVV (pc := 70) (rest := []) (As := [.int (4 : Int32)]) C hl.1 hP hS (k_X1_await l G hC h0 hw) h0 rfl rfl mw_172 mw_174 mw_0 mw_60 mw_175 ⟨rfl, rfl⟩ hd_X1_await rfl rfl ⟨Nat.le_of_ble_eq_true rfl, Nat.le_of_ble_eq_true rfl⟩ (Nat.le_of_ble_eq_true rfl) ⟨Nat.zero_le _, Nat.zero_le _⟩ dX1_beginsTerm_70 (fun M70 H locs hw hP hS => ?_)
    refine lv_aload_n (pc := 73) hx hb dX1_beginsTerm_73 rfl (lv_at hl 0 rfl) ?_
    refine lv_iconst (pc := 74) (v := (4 : Int32)) hx hb dX1_beginsTerm_74 (by decide) ?_
    refine r_cVV (pc := 75) (rest := []) (As := [.int (4 : Int32)]) C hl.1 hP hS (k_X1_await l G hC h0 hw) h0 rfl rfl mw_172 mw_174 mw_0 mw_60 mw_175 ⟨rfl, rfl⟩ hd_X1_await rfl rfl ⟨Nat.le_of_ble_eq_true rfl, Nat.le_of_ble_eq_true rfl⟩ (Nat.le_of_ble_eq_true rfl) ⟨Nat.zero_le _, Nat.zero_le _⟩ dX1_beginsTerm_75 (fun M75 H locs hw hP hS => ?_)
    refine lv_aload_n (pc := 78) hx hb dX1_beginsTerm_78 rfl (lv_at hl 0 rfl) ?_
    refine lv_iconst (pc := 79) (v := (4 : Int32)) hx hb dX1_beginsTerm_79 (by decide) ?_
    refine r_cVV (pc := 80) (rest := []) (As := [.int (4 : Int32)]) C hl.1 hP hS (k_X1_await l G hC h0 hw) h0 rfl rfl mw_172 mw_174 mw_0 mw_60 mw_175 ⟨rfl, rfl⟩ hd_X1_await rfl rfl ⟨Nat.le_of_ble_eq_true rfl, Nat.le_of_ble_eq_true rfl⟩ (Nat.le_of_ble_eq_true rfl) ⟨Nat.zero_le _, Nat.zero_le _⟩ dX1_beginsTerm_80 (fun M80 H locs hw hP hS => ?_)
    refine lv_iconst (pc := 83) (v := (1 : Int32)) hx hb dX1_beginsTerm_83 (by decide) ?_
    exact r_zret (pc := 84) C hP hS (by decide) hw dX1_beginsTerm_84
  · replace hw := if_f hk0 hw
    by_cases hk1 : a1 = (37 : Int32)
    · replace hw := if_t hk1 hw
      refine lv_lookup (pc := 1) (tgt := 104) (off := 103) hx hb dX1_beginsTerm_1 (by decide) (by rw [hk1]; rfl) (by decide) ?_
      refine lv_aload_n (pc := 104) hx hb dX1_beginsTerm_104 rfl (lv_at hl 0 rfl) ?_
      refine lv_iconst (pc := 105) (v := (5 : Int32)) hx hb dX1_beginsTerm_105 (by decide) ?_
      refine r_cVV (pc := 106) (rest := []) (As := [.int (5 : Int32)]) C hl.1 hP hS (k_X1_await l G hC h0 hw) h0 rfl rfl mw_172 mw_174 mw_0 mw_60 mw_175 ⟨rfl, rfl⟩ hd_X1_await rfl rfl ⟨Nat.le_of_ble_eq_true rfl, Nat.le_of_ble_eq_true rfl⟩ (Nat.le_of_ble_eq_true rfl) ⟨Nat.zero_le _, Nat.zero_le _⟩ dX1_beginsTerm_106 (fun M106 H locs hw hP hS => ?_)
      refine lv_aload_n (pc := 109) hx hb dX1_beginsTerm_109 rfl (lv_at hl 0 rfl) ?_
      refine lv_iconst (pc := 110) (v := (2 : Int32)) hx hb dX1_beginsTerm_110 (by decide) ?_
      refine r_cVV (pc := 111) (rest := []) (As := [.int (2 : Int32)]) C hl.1 hP hS (k_X1_await l G hC h0 hw) h0 rfl rfl mw_172 mw_174 mw_0 mw_60 mw_175 ⟨rfl, rfl⟩ hd_X1_await rfl rfl ⟨Nat.le_of_ble_eq_true rfl, Nat.le_of_ble_eq_true rfl⟩ (Nat.le_of_ble_eq_true rfl) ⟨Nat.zero_le _, Nat.zero_le _⟩ dX1_beginsTerm_111 (fun M111 H locs hw hP hS => ?_)
      refine lv_iconst (pc := 114) (v := (1 : Int32)) hx hb dX1_beginsTerm_114 (by decide) ?_
      exact r_zret (pc := 115) C hP hS (by decide) hw dX1_beginsTerm_115
    · replace hw := if_f hk1 hw
      by_cases hk2 : a1 = (42 : Int32)
      · replace hw := if_t hk2 hw
        refine lv_lookup (pc := 1) (tgt := 92) (off := 91) hx hb dX1_beginsTerm_1 (by decide) (by rw [hk2]; rfl) (by decide) ?_
        refine lv_aload_n (pc := 92) hx hb dX1_beginsTerm_92 rfl (lv_at hl 0 rfl) ?_
        refine lv_iconst (pc := 93) (v := (2 : Int32)) hx hb dX1_beginsTerm_93 (by decide) ?_
        refine r_cVV (pc := 94) (rest := []) (As := [.int (2 : Int32)]) C hl.1 hP hS (k_X1_await l G hC h0 hw) h0 rfl rfl mw_172 mw_174 mw_0 mw_60 mw_175 ⟨rfl, rfl⟩ hd_X1_await rfl rfl ⟨Nat.le_of_ble_eq_true rfl, Nat.le_of_ble_eq_true rfl⟩ (Nat.le_of_ble_eq_true rfl) ⟨Nat.zero_le _, Nat.zero_le _⟩ dX1_beginsTerm_94 (fun M94 H locs hw hP hS => ?_)
        refine lv_aload_n (pc := 97) hx hb dX1_beginsTerm_97 rfl (lv_at hl 0 rfl) ?_
        refine lv_iconst (pc := 98) (v := (2 : Int32)) hx hb dX1_beginsTerm_98 (by decide) ?_
        refine r_cVV (pc := 99) (rest := []) (As := [.int (2 : Int32)]) C hl.1 hP hS (k_X1_await l G hC h0 hw) h0 rfl rfl mw_172 mw_174 mw_0 mw_60 mw_175 ⟨rfl, rfl⟩ hd_X1_await rfl rfl ⟨Nat.le_of_ble_eq_true rfl, Nat.le_of_ble_eq_true rfl⟩ (Nat.le_of_ble_eq_true rfl) ⟨Nat.zero_le _, Nat.zero_le _⟩ dX1_beginsTerm_99 (fun M99 H locs hw hP hS => ?_)
        refine lv_iconst (pc := 102) (v := (1 : Int32)) hx hb dX1_beginsTerm_102 (by decide) ?_
        exact r_zret (pc := 103) C hP hS (by decide) hw dX1_beginsTerm_103
      · replace hw := if_f hk2 hw
        by_cases hk3 : a1 = (43 : Int32)
        · replace hw := if_t hk3 hw
          refine lv_lookup (pc := 1) (tgt := 92) (off := 91) hx hb dX1_beginsTerm_1 (by decide) (by rw [hk3]; rfl) (by decide) ?_
          refine lv_aload_n (pc := 92) hx hb dX1_beginsTerm_92 rfl (lv_at hl 0 rfl) ?_
          refine lv_iconst (pc := 93) (v := (2 : Int32)) hx hb dX1_beginsTerm_93 (by decide) ?_
          refine r_cVV (pc := 94) (rest := []) (As := [.int (2 : Int32)]) C hl.1 hP hS (k_X1_await l G hC h0 hw) h0 rfl rfl mw_172 mw_174 mw_0 mw_60 mw_175 ⟨rfl, rfl⟩ hd_X1_await rfl rfl ⟨Nat.le_of_ble_eq_true rfl, Nat.le_of_ble_eq_true rfl⟩ (Nat.le_of_ble_eq_true rfl) ⟨Nat.zero_le _, Nat.zero_le _⟩ dX1_beginsTerm_94 (fun M94 H locs hw hP hS => ?_)
          refine lv_aload_n (pc := 97) hx hb dX1_beginsTerm_97 rfl (lv_at hl 0 rfl) ?_
          refine lv_iconst (pc := 98) (v := (2 : Int32)) hx hb dX1_beginsTerm_98 (by decide) ?_
          refine r_cVV (pc := 99) (rest := []) (As := [.int (2 : Int32)]) C hl.1 hP hS (k_X1_await l G hC h0 hw) h0 rfl rfl mw_172 mw_174 mw_0 mw_60 mw_175 ⟨rfl, rfl⟩ hd_X1_await rfl rfl ⟨Nat.le_of_ble_eq_true rfl, Nat.le_of_ble_eq_true rfl⟩ (Nat.le_of_ble_eq_true rfl) ⟨Nat.zero_le _, Nat.zero_le _⟩ dX1_beginsTerm_99 (fun M99 H locs hw hP hS => ?_)
          refine lv_iconst (pc := 102) (v := (1 : Int32)) hx hb dX1_beginsTerm_102 (by decide) ?_
          exact r_zret (pc := 103) C hP hS (by decide) hw dX1_beginsTerm_103
        · replace hw := if_f hk3 hw
          by_cases hk4 : a1 = (45 : Int32)
          · replace hw := if_t hk4 hw
            refine lv_lookup (pc := 1) (tgt := 92) (off := 91) hx hb dX1_beginsTerm_1 (by decide) (by rw [hk4]; rfl) (by decide) ?_
            refine lv_aload_n (pc := 92) hx hb dX1_beginsTerm_92 rfl (lv_at hl 0 rfl) ?_
            refine lv_iconst (pc := 93) (v := (2 : Int32)) hx hb dX1_beginsTerm_93 (by decide) ?_
            refine r_cVV (pc := 94) (rest := []) (As := [.int (2 : Int32)]) C hl.1 hP hS (k_X1_await l G hC h0 hw) h0 rfl rfl mw_172 mw_174 mw_0 mw_60 mw_175 ⟨rfl, rfl⟩ hd_X1_await rfl rfl ⟨Nat.le_of_ble_eq_true rfl, Nat.le_of_ble_eq_true rfl⟩ (Nat.le_of_ble_eq_true rfl) ⟨Nat.zero_le _, Nat.zero_le _⟩ dX1_beginsTerm_94 (fun M94 H locs hw hP hS => ?_)
            refine lv_aload_n (pc := 97) hx hb dX1_beginsTerm_97 rfl (lv_at hl 0 rfl) ?_
            refine lv_iconst (pc := 98) (v := (2 : Int32)) hx hb dX1_beginsTerm_98 (by decide) ?_
            refine r_cVV (pc := 99) (rest := []) (As := [.int (2 : Int32)]) C hl.1 hP hS (k_X1_await l G hC h0 hw) h0 rfl rfl mw_172 mw_174 mw_0 mw_60 mw_175 ⟨rfl, rfl⟩ hd_X1_await rfl rfl ⟨Nat.le_of_ble_eq_true rfl, Nat.le_of_ble_eq_true rfl⟩ (Nat.le_of_ble_eq_true rfl) ⟨Nat.zero_le _, Nat.zero_le _⟩ dX1_beginsTerm_99 (fun M99 H locs hw hP hS => ?_)
            refine lv_iconst (pc := 102) (v := (1 : Int32)) hx hb dX1_beginsTerm_102 (by decide) ?_
            exact r_zret (pc := 103) C hP hS (by decide) hw dX1_beginsTerm_103
          · replace hw := if_f hk4 hw
            by_cases hk5 : a1 = (121 : Int32)
            · replace hw := if_t hk5 hw
              refine lv_lookup (pc := 1) (tgt := 85) (off := 84) hx hb dX1_beginsTerm_1 (by decide) (by rw [hk5]; rfl) (by decide) ?_
              refine lv_aload_n (pc := 85) hx hb dX1_beginsTerm_85 rfl (lv_at hl 0 rfl) ?_
              refine lv_iconst (pc := 86) (v := (2 : Int32)) hx hb dX1_beginsTerm_86 (by decide) ?_
              refine r_cVV (pc := 87) (rest := []) (As := [.int (2 : Int32)]) C hl.1 hP hS (k_X1_await l G hC h0 hw) h0 rfl rfl mw_172 mw_174 mw_0 mw_60 mw_175 ⟨rfl, rfl⟩ hd_X1_await rfl rfl ⟨Nat.le_of_ble_eq_true rfl, Nat.le_of_ble_eq_true rfl⟩ (Nat.le_of_ble_eq_true rfl) ⟨Nat.zero_le _, Nat.zero_le _⟩ dX1_beginsTerm_87 (fun M87 H locs hw hP hS => ?_)
              refine lv_iconst (pc := 90) (v := (1 : Int32)) hx hb dX1_beginsTerm_90 (by decide) ?_
              exact r_zret (pc := 91) C hP hS (by decide) hw dX1_beginsTerm_91
            · replace hw := if_f hk5 hw
              by_cases hk6 : a1 = (126 : Int32)
              · replace hw := if_t hk6 hw
                refine lv_lookup (pc := 1) (tgt := 85) (off := 84) hx hb dX1_beginsTerm_1 (by decide) (by rw [hk6]; rfl) (by decide) ?_
                refine lv_aload_n (pc := 85) hx hb dX1_beginsTerm_85 rfl (lv_at hl 0 rfl) ?_
                refine lv_iconst (pc := 86) (v := (2 : Int32)) hx hb dX1_beginsTerm_86 (by decide) ?_
                refine r_cVV (pc := 87) (rest := []) (As := [.int (2 : Int32)]) C hl.1 hP hS (k_X1_await l G hC h0 hw) h0 rfl rfl mw_172 mw_174 mw_0 mw_60 mw_175 ⟨rfl, rfl⟩ hd_X1_await rfl rfl ⟨Nat.le_of_ble_eq_true rfl, Nat.le_of_ble_eq_true rfl⟩ (Nat.le_of_ble_eq_true rfl) ⟨Nat.zero_le _, Nat.zero_le _⟩ dX1_beginsTerm_87 (fun M87 H locs hw hP hS => ?_)
                refine lv_iconst (pc := 90) (v := (1 : Int32)) hx hb dX1_beginsTerm_90 (by decide) ?_
                exact r_zret (pc := 91) C hP hS (by decide) hw dX1_beginsTerm_91
              · replace hw := if_f hk6 hw
                refine lv_lookup (pc := 1) (tgt := 116) (off := 115) hx hb dX1_beginsTerm_1 (by decide) (by show Op.lookupswitch.offset [(35, 67), (37, 103), (42, 91), (43, 91), (45, 91), (121, 84), (126, 84)] 115 _ = _; rw [lv_osw (a := 35) hk0 rfl, lv_osw (a := 37) hk1 rfl, lv_osw (a := 42) hk2 rfl, lv_osw (a := 43) hk3 rfl, lv_osw (a := 45) hk4 rfl, lv_osw (a := 121) hk5 rfl, lv_osw (a := 126) hk6 rfl]; rfl) (by decide) ?_
                refine lv_iload_n (pc := 116) hx hb dX1_beginsTerm_116 rfl (lv_at hl 1 rfl) ?_
                refine r_cNI (pc := 117) (rest := []) (As := [.int a1]) C hl.1 hP hS (k_X8_isLetter l G hC  hw) (List.mem_of_getElem? (i := 0) rfl) mw_439 mw_56 mw_440 ⟨rfl, rfl⟩ hd_X8_isLetter rfl rfl ⟨Nat.le_of_ble_eq_true rfl, Nat.le_of_ble_eq_true rfl⟩ (Nat.le_of_ble_eq_true rfl) ⟨Nat.zero_le _, Nat.zero_le _⟩ dX1_beginsTerm_117 (fun r117 M117 H locs hw hP hS => ?_)
                refine lv_if_ne (pc := 120) (tgt := 130) hx hb dX1_beginsTerm_120 (by decide) (fun h => ?_) (fun h => ?_)
                · replace hw := if_f h hw
                  refine lv_iconst (pc := 130) (v := (1 : Int32)) hx hb dX1_beginsTerm_130 (by decide) ?_
                  refine lv_goto (pc := 131) (tgt := 135) hx hb dX1_beginsTerm_131 (by decide) ?_
                  exact r_zret (pc := 135) C hP hS (by decide) hw dX1_beginsTerm_135
                · replace hw := if_t h hw
                  refine lv_iload_n (pc := 123) hx hb dX1_beginsTerm_123 rfl (lv_at hl 1 rfl) ?_
                  refine r_cNI (pc := 124) (rest := []) (As := [.int a1]) C hl.1 hP hS (k_X8_isFigure l G hC  hw) (List.mem_of_getElem? (i := 1) rfl) mw_442 mw_56 mw_443 ⟨rfl, rfl⟩ hd_X8_isFigure rfl rfl ⟨Nat.le_of_ble_eq_true rfl, Nat.le_of_ble_eq_true rfl⟩ (Nat.le_of_ble_eq_true rfl) ⟨Nat.zero_le _, Nat.zero_le _⟩ dX1_beginsTerm_124 (fun r124 M124 H locs hw hP hS => ?_)
                  refine lv_if_eq (pc := 127) (tgt := 134) hx hb dX1_beginsTerm_127 (by decide) (fun h => ?_) (fun h => ?_)
                  · replace hw := if_t h hw
                    refine lv_iconst (pc := 134) (v := (0 : Int32)) hx hb dX1_beginsTerm_134 (by decide) ?_
                    exact r_zret (pc := 135) C hP hS (by decide) hw dX1_beginsTerm_135
                  · replace hw := if_f h hw
                    refine lv_iconst (pc := 130) (v := (1 : Int32)) hx hb dX1_beginsTerm_130 (by decide) ?_
                    refine lv_goto (pc := 131) (tgt := 135) hx hb dX1_beginsTerm_131 (by decide) ?_
                    exact r_zret (pc := 135) C hP hS (by decide) hw dX1_beginsTerm_135
end
theorem k_X1_beginsTerm (l : Launch) (G : GG) {I : ix → Prop} {ad : ix → Nat} (hC : clo I) {a1 : Int32} (h0 : I (11, 0, 0, 0)) {Q : Int32 → Mem → Prop} {M : Mem} (hw : w_X1_beginsTerm a1 Q M) : Met l yX1_beginsTerm (wW yX1_beginsTerm cX1_beginsTerm 2 (some .boolean)) rm_X1_beginsTerm (va_Pc [.ref (ad (11, 0, 0, 0)), .int a1] (fun U => wd G I ad M U.heap ∧ wK G U)) (qI G I ad Q) 0 0 (fA I ad) := met_of (by decide +kernel) (Nat.le_of_ble_eq_true rfl) (fun p e s m below meth c C hP hS ls hl => j_X1_beginsTerm_0 C hC h0 _ _ _ _ hw hP hS hl)
section
variable {p : Program} {l : Launch} {e : Env} {s : State} {m : MethodId} {args : Array Value} {below : List Frame} {meth : Method} {c : Code} 
variable  {G : GG} {I : ix → Prop} {ad : ix → Nat}
set_option maxHeartbeats 4000000 in
set_option maxRecDepth 100000 in
theorem j_X1_canStand_0 {a1 : Int32} (C : cx p s m args meth c cX1_canStand 3 (some .boolean) RX1 G) (hC : clo I) (h0 : I (11, 0, 0, 0)) {Q : Int32 → Mem → Prop} : ∀ (M : Mem) (H : Heap) (locs : List Loc) (ls : Array Slot), w_X1_canStand a1 Q M → wd G I ad M H → va_S (fA I ad) s.heap H locs → lv_has ls 3 [(0, .ref (ad (11, 0, 0, 0))), (1, .int a1)] → W p l e rm_X1_canStand s m args below meth c H locs 0 0 (MQ below (qI G I ad Q) args s 0 0 (fA I ad)) (F0 m 0 ls []) := by
  have hx := C.1
  have hb := C.2.1
  have hown := C.2.2.2.1
  have hts := C.2.2.2.2.1
  intro M H locs ls hw hP hS hl
  unfold w_X1_canStand at hw
  refine lv_aload_n (pc := 0) hx hb dX1_canStand_0 rfl (lv_at hl 0 rfl) ?_
  refine gf_195 (pc := 1) C hP h0 dX1_canStand_1 ?_
  refine lv_if_ne (pc := 4) (tgt := 9) hx hb dX1_canStand_4 (by decide) (fun h => ?_) (fun h => ?_)
  · replace hw := if_f h hw
    refine lv_aload_n (pc := 9) hx hb dX1_canStand_9 rfl (lv_at hl 0 rfl) ?_
    refine lv_dup (pc := 10) hx hb dX1_canStand_10 rfl ?_
    refine gf_195 (pc := 11) C hP h0 dX1_canStand_11 ?_
    refine lv_iconst (pc := 14) (v := (1 : Int32)) hx hb dX1_canStand_14 (by decide) ?_
    refine lv_isub (pc := 15) hx hb dX1_canStand_15 ?_
    refine pf_195 (pc := 16) C hP hS h0 dX1_canStand_16 (fun H locs hP hS => ?_)
    refine lv_aload_n (pc := 19) hx hb dX1_canStand_19 rfl (lv_at hl 0 rfl) ?_
    refine gf_194 (pc := 20) C hP h0 dX1_canStand_20 ?_
    refine lv_aload_n (pc := 23) hx hb dX1_canStand_23 rfl (lv_at hl 0 rfl) ?_
    refine gf_195 (pc := 24) C hP h0 dX1_canStand_24 ?_
    refine r_ialdK (pc := 27) (n := 121) (k := ((mu M (11, 0, 0, 0) 7 ((M.1 (11, 0, 0, 0) 7) - (1 : Int32))).1 (11, 0, 0, 0) 7).toNatClampNeg) C hP (cl_11_6 hC h0) (fun _ _ _ _ => rfl) hw.1 rfl dX1_canStand_27 ?_
    replace hw := hw.2
    refine lv_topi (fun x2_28 ex2_28 => ?_)
    replace hw := hw x2_28 ex2_28
    refine lv_istore_n (pc := 28) (lv' := [(2, .int x2_28), (0, .ref (ad (11, 0, 0, 0))), (1, .int a1)]) hx hb dX1_canStand_28 rfl hl (by decide) rfl (fun ls hl => ?_)
    refine lv_aload_n (pc := 29) hx hb dX1_canStand_29 rfl (lv_at hl 1 rfl) ?_
    refine gf_183 (pc := 30) C hP h0 dX1_canStand_30 ?_
    refine lv_aload_n (pc := 33) hx hb dX1_canStand_33 rfl (lv_at hl 1 rfl) ?_
    refine gf_176 (pc := 34) C hP h0 dX1_canStand_34 ?_
    refine lv_iload_n (pc := 37) hx hb dX1_canStand_37 rfl (lv_at hl 0 rfl) ?_
    refine r_iastK (pc := 38) (n := 60) (k := ((mu M (11, 0, 0, 0) 7 ((M.1 (11, 0, 0, 0) 7) - (1 : Int32))).1 (11, 0, 0, 0) 0).toNatClampNeg) C hP hS (cl_11_2 hC h0) (fun _ _ _ _ => rfl) hw.1 rfl dX1_canStand_38 (fun H locs hP hS => ?_)
    replace hw := hw.2
    obtain ⟨M38, eM38⟩ : ∃ z : Mem, z = (mu (mu M (11, 0, 0, 0) 7 ((M.1 (11, 0, 0, 0) 7) - (1 : Int32))) (13, 0, 0, 0) (((mu M (11, 0, 0, 0) 7 ((M.1 (11, 0, 0, 0) 7) - (1 : Int32))).1 (11, 0, 0, 0) 0).toNatClampNeg) x2_28) := ⟨_, rfl⟩
    replace hP : wd G I ad M38 H := by rw [eM38]; exact hP
    replace hw := hw M38 eM38
    refine lv_iload_n (pc := 39) hx hb dX1_canStand_39 rfl (lv_at hl 0 rfl) ?_
    by_cases hk0 : x2_28 = (1 : Int32)
    · replace hw := if_t hk0 hw
      refine lv_tableIn (pc := 40) (tgt := 72) (off := 32) hx hb dX1_canStand_40 (by rw [hk0]; decide) (by rw [hk0]; decide) (by rw [hk0]; rfl) (by decide) ?_
      refine lv_aload_n (pc := 72) hx hb dX1_canStand_72 rfl (lv_at hl 1 rfl) ?_
      refine lv_iload_n (pc := 73) hx hb dX1_canStand_73 rfl (lv_at hl 2 rfl) ?_
      refine r_cVI (pc := 74) (rest := []) (As := [.int a1]) C hl.1 hP hS (k_X1_beginsTruth l G hC h0 hw) h0 rfl rfl mw_430 mw_432 mw_6 mw_60 mw_433 ⟨rfl, rfl⟩ hd_X1_beginsTruth rfl rfl ⟨Nat.le_of_ble_eq_true rfl, Nat.le_of_ble_eq_true rfl⟩ (Nat.le_of_ble_eq_true rfl) ⟨Nat.zero_le _, Nat.zero_le _⟩ dX1_canStand_74 (fun r74 M74 H locs hw hP hS => ?_)
      exact r_zret (pc := 77) C hP hS hw.1 hw.2 dX1_canStand_77
    · replace hw := if_f hk0 hw
      by_cases hk1 : x2_28 = (2 : Int32)
      · replace hw := if_t hk1 hw
        refine lv_tableIn (pc := 40) (tgt := 78) (off := 38) hx hb dX1_canStand_40 (by rw [hk1]; decide) (by rw [hk1]; decide) (by rw [hk1]; rfl) (by decide) ?_
        refine lv_aload_n (pc := 78) hx hb dX1_canStand_78 rfl (lv_at hl 1 rfl) ?_
        refine lv_iload_n (pc := 79) hx hb dX1_canStand_79 rfl (lv_at hl 2 rfl) ?_
        refine r_cVI (pc := 80) (rest := []) (As := [.int a1]) C hl.1 hP hS (k_X1_beginsTerm l G hC h0 hw) h0 rfl rfl mw_434 mw_436 mw_7 mw_60 mw_437 ⟨rfl, rfl⟩ hd_X1_beginsTerm rfl rfl ⟨Nat.le_of_ble_eq_true rfl, Nat.le_of_ble_eq_true rfl⟩ (Nat.le_of_ble_eq_true rfl) ⟨Nat.zero_le _, Nat.zero_le _⟩ dX1_canStand_80 (fun r80 M80 H locs hw hP hS => ?_)
        exact r_zret (pc := 83) C hP hS hw.1 hw.2 dX1_canStand_83
      · replace hw := if_f hk1 hw
        by_cases hk2 : x2_28 = (3 : Int32)
        · replace hw := if_t hk2 hw
          refine lv_tableIn (pc := 40) (tgt := 84) (off := 44) hx hb dX1_canStand_40 (by rw [hk2]; decide) (by rw [hk2]; decide) (by rw [hk2]; rfl) (by decide) ?_
          refine lv_iload_n (pc := 84) hx hb dX1_canStand_84 rfl (lv_at hl 2 rfl) ?_
          refine r_cNI (pc := 85) (rest := []) (As := [.int a1]) C hl.1 hP hS (k_X8_isLetter l G hC  hw) (List.mem_of_getElem? (i := 0) rfl) mw_439 mw_56 mw_440 ⟨rfl, rfl⟩ hd_X8_isLetter rfl rfl ⟨Nat.le_of_ble_eq_true rfl, Nat.le_of_ble_eq_true rfl⟩ (Nat.le_of_ble_eq_true rfl) ⟨Nat.zero_le _, Nat.zero_le _⟩ dX1_canStand_85 (fun r85 M85 H locs hw hP hS => ?_)
          exact r_zret (pc := 88) C hP hS hw.1 hw.2 dX1_canStand_88
        · replace hw := if_f hk2 hw
          by_cases hk3 : x2_28 = (4 : Int32)
          · replace hw := if_t hk3 hw
            refine lv_tableIn (pc := 40) (tgt := 89) (off := 49) hx hb dX1_canStand_40 (by rw [hk3]; decide) (by rw [hk3]; decide) (by rw [hk3]; rfl) (by decide) ?_
            refine lv_iload_n (pc := 89) hx hb dX1_canStand_89 rfl (lv_at hl 2 rfl) ?_
            refine r_cNI (pc := 90) (rest := []) (As := [.int a1]) C hl.1 hP hS (k_X8_isFigure l G hC  hw) (List.mem_of_getElem? (i := 1) rfl) mw_442 mw_56 mw_443 ⟨rfl, rfl⟩ hd_X8_isFigure rfl rfl ⟨Nat.le_of_ble_eq_true rfl, Nat.le_of_ble_eq_true rfl⟩ (Nat.le_of_ble_eq_true rfl) ⟨Nat.zero_le _, Nat.zero_le _⟩ dX1_canStand_90 (fun r90 M90 H locs hw hP hS => ?_)
            exact r_zret (pc := 93) C hP hS hw.1 hw.2 dX1_canStand_93
          · replace hw := if_f hk3 hw
            refine lv_tableOut (pc := 40) (tgt := 94) hx hb dX1_canStand_40 (by have q0 := lv_neT (a := 1) hk0 rfl; have q1 := lv_neT (a := 2) hk1 rfl; have q2 := lv_neT (a := 3) hk2 rfl; have q3 := lv_neT (a := 4) hk3 rfl; omega) (by decide) ?_
            refine lv_iload_n (pc := 94) hx hb dX1_canStand_94 rfl (lv_at hl 2 rfl) ?_
            refine r_cNI (pc := 95) (rest := []) (As := [.int a1]) C hl.1 hP hS (k_X8_isFigure l G hC  hw) (List.mem_of_getElem? (i := 1) rfl) mw_442 mw_56 mw_443 ⟨rfl, rfl⟩ hd_X8_isFigure rfl rfl ⟨Nat.le_of_ble_eq_true rfl, Nat.le_of_ble_eq_true rfl⟩ (Nat.le_of_ble_eq_true rfl) ⟨Nat.zero_le _, Nat.zero_le _⟩ dX1_canStand_95 (fun r95 M95 H locs hw hP hS => ?_)
            refine lv_if_eq (pc := 98) (tgt := 111) hx hb dX1_canStand_98 (by decide) (fun h => ?_) (fun h => ?_)
            · replace hw := if_t h hw
              refine lv_iconst (pc := 111) (v := (0 : Int32)) hx hb dX1_canStand_111 (by decide) ?_
              exact r_zret (pc := 112) C hP hS (by decide) hw dX1_canStand_112
            · replace hw := if_f h hw
              refine lv_iload_n (pc := 101) hx hb dX1_canStand_101 rfl (lv_at hl 2 rfl) ?_
              refine lv_bipush (pc := 102) (v := (48 : Int32)) hx hb dX1_canStand_102 (by decide) ?_
              refine lv_icmp_eq (pc := 104) (tgt := 111) hx hb dX1_canStand_104 (by decide) (fun h => ?_) (fun h => ?_)
              · replace hw := if_t h hw
                refine lv_iconst (pc := 111) (v := (0 : Int32)) hx hb dX1_canStand_111 (by decide) ?_
                exact r_zret (pc := 112) C hP hS (by decide) hw dX1_canStand_112
              · replace hw := if_f h hw
                refine lv_iconst (pc := 107) (v := (1 : Int32)) hx hb dX1_canStand_107 (by decide) ?_
                refine lv_goto (pc := 108) (tgt := 112) hx hb dX1_canStand_108 (by decide) ?_
                exact r_zret (pc := 112) C hP hS (by decide) hw dX1_canStand_112
  · replace hw := if_t h hw
    refine lv_iconst (pc := 7) (v := (0 : Int32)) hx hb dX1_canStand_7 (by decide) ?_
    exact r_zret (pc := 8) C hP hS (by decide) hw dX1_canStand_8
end
theorem k_X1_canStand (l : Launch) (G : GG) {I : ix → Prop} {ad : ix → Nat} (hC : clo I) {a1 : Int32} (h0 : I (11, 0, 0, 0)) {Q : Int32 → Mem → Prop} {M : Mem} (hw : w_X1_canStand a1 Q M) : Met l yX1_canStand (wW yX1_canStand cX1_canStand 3 (some .boolean)) rm_X1_canStand (va_Pc [.ref (ad (11, 0, 0, 0)), .int a1] (fun U => wd G I ad M U.heap ∧ wK G U)) (qI G I ad Q) 0 0 (fA I ad) := met_of (by decide +kernel) (Nat.le_of_ble_eq_true rfl) (fun p e s m below meth c C hP hS ls hl => j_X1_canStand_0 C hC h0 _ _ _ _ hw hP hS hl)
section
variable {p : Program} {l : Launch} {e : Env} {s : State} {m : MethodId} {args : Array Value} {below : List Frame} {meth : Method} {c : Code} 
variable  {G : GG} {I : ix → Prop} {ad : ix → Nat}
set_option maxHeartbeats 4000000 in
set_option maxRecDepth 100000 in
theorem j_X1_append_0 {a1 : Int32} (C : cx p s m args meth c cX1_append 2 (some .int) RX1 G) (hC : clo I) (h0 : I (11, 0, 0, 0)) {Q : Int32 → Mem → Prop} : ∀ (M : Mem) (H : Heap) (locs : List Loc) (ls : Array Slot), w_X1_append a1 Q M → wd G I ad M H → va_S (fA I ad) s.heap H locs → lv_has ls 2 [(0, .ref (ad (11, 0, 0, 0))), (1, .int a1)] → W p l e rm_X1_append s m args below meth c H locs 0 0 (MQ below (qI G I ad Q) args s 0 0 (fA I ad)) (F0 m 0 ls []) := by
  have hx := C.1
  have hb := C.2.1
  have hown := C.2.2.2.1
  have hts := C.2.2.2.2.1
  intro M H locs ls hw hP hS hl
  unfold w_X1_append at hw
  refine lv_aload_n (pc := 0) hx hb dX1_append_0 rfl (lv_at hl 0 rfl) ?_
  refine gf_176 (pc := 1) C hP h0 dX1_append_1 ?_
  refine lv_bipush (pc := 4) (v := (60 : Int32)) hx hb dX1_append_4 (by decide) ?_
  refine lv_icmp_lt (pc := 6) (tgt := 12) hx hb dX1_append_6 (by decide) (fun h => ?_) (fun h => ?_)
  · replace hw := if_t h hw
    refine lv_aload_n (pc := 12) hx hb dX1_append_12 rfl (lv_at hl 0 rfl) ?_
    refine gf_180 (pc := 13) C hP h0 dX1_append_13 ?_
    refine lv_aload_n (pc := 16) hx hb dX1_append_16 rfl (lv_at hl 0 rfl) ?_
    refine gf_176 (pc := 17) C hP h0 dX1_append_17 ?_
    refine lv_iload_n (pc := 20) hx hb dX1_append_20 rfl (lv_at hl 1 rfl) ?_
    refine r_iastK (pc := 21) (n := 60) (k := (M.1 (11, 0, 0, 0) 0).toNatClampNeg) C hP hS (cl_11_1 hC h0) (fun _ _ _ _ => rfl) hw.1 rfl dX1_append_21 (fun H locs hP hS => ?_)
    replace hw := hw.2
    refine lv_aload_n (pc := 22) hx hb dX1_append_22 rfl (lv_at hl 0 rfl) ?_
    refine gf_196 (pc := 23) C hP h0 dX1_append_23 ?_
    refine lv_ldc (pc := 26) (own := RX1) (v := (-2000000 : Int32)) hx hb hown (hts _ mw_171) dX1_append_26 ?_
    refine lv_icmp_ne (pc := 28) (tgt := 47) hx hb dX1_append_28 (by decide) (fun h => ?_) (fun h => ?_)
    · replace hw := if_f h hw
      refine lv_aload_n (pc := 47) hx hb dX1_append_47 rfl (lv_at hl 0 rfl) ?_
      refine lv_dup (pc := 48) hx hb dX1_append_48 rfl ?_
      refine gf_176 (pc := 49) C hP h0 dX1_append_49 ?_
      refine lv_iconst (pc := 52) (v := (1 : Int32)) hx hb dX1_append_52 (by decide) ?_
      refine lv_iadd (pc := 53) hx hb dX1_append_53 ?_
      refine pf_176 (pc := 54) C hP hS h0 dX1_append_54 (fun H locs hP hS => ?_)
      obtain ⟨M54, eM54⟩ : ∃ z : Mem, z = (mu (mu M (12, 0, 0, 0) ((M.1 (11, 0, 0, 0) 0).toNatClampNeg) a1) (11, 0, 0, 0) 0 (((mu M (12, 0, 0, 0) ((M.1 (11, 0, 0, 0) 0).toNatClampNeg) a1).1 (11, 0, 0, 0) 0) + (1 : Int32))) := ⟨_, rfl⟩
      replace hP : wd G I ad M54 H := by rw [eM54]; exact hP
      replace hw := hw M54 eM54
      refine lv_aload_n (pc := 57) hx hb dX1_append_57 rfl (lv_at hl 0 rfl) ?_
      refine r_cVI (pc := 58) (rest := []) (As := []) C hl.1 hP hS (k_X1_isFaulty l G hC h0 hw) h0 rfl rfl mw_444 mw_445 mw_446 mw_60 mw_447 ⟨rfl, rfl⟩ hd_X1_isFaulty rfl rfl ⟨Nat.le_of_ble_eq_true rfl, Nat.le_of_ble_eq_true rfl⟩ (Nat.le_of_ble_eq_true rfl) ⟨Nat.zero_le _, Nat.zero_le _⟩ dX1_append_58 (fun r58 M58 H locs hw hP hS => ?_)
      refine lv_if_ne (pc := 61) (tgt := 68) hx hb dX1_append_61 (by decide) (fun h => ?_) (fun h => ?_)
      · replace hw := if_f h hw
        refine lv_aload_n (pc := 68) hx hb dX1_append_68 rfl (lv_at hl 0 rfl) ?_
        refine gf_176 (pc := 69) C hP h0 dX1_append_69 ?_
        exact r_iret (pc := 72) C hP hS hw dX1_append_72
      · replace hw := if_t h hw
        refine lv_aload_n (pc := 64) hx hb dX1_append_64 rfl (lv_at hl 0 rfl) ?_
        refine r_cVV (pc := 65) (rest := []) (As := []) C hl.1 hP hS (k_X1_findParts l G hC h0 hw) h0 rfl rfl mw_448 mw_450 mw_8 mw_60 mw_451 ⟨rfl, rfl⟩ hd_X1_findParts rfl rfl ⟨Nat.le_of_ble_eq_true rfl, Nat.le_of_ble_eq_true rfl⟩ (Nat.le_of_ble_eq_true rfl) ⟨Nat.zero_le _, Nat.zero_le _⟩ dX1_append_65 (fun M65 H locs hw hP hS => ?_)
        refine lv_aload_n (pc := 68) hx hb dX1_append_68 rfl (lv_at hl 0 rfl) ?_
        refine gf_176 (pc := 69) C hP h0 dX1_append_69 ?_
        exact r_iret (pc := 72) C hP hS hw dX1_append_72
    · replace hw := if_t h hw
      refine lv_aload_n (pc := 31) hx hb dX1_append_31 rfl (lv_at hl 0 rfl) ?_
      refine lv_iload_n (pc := 32) hx hb dX1_append_32 rfl (lv_at hl 1 rfl) ?_
      refine r_cVI (pc := 33) (rest := []) (As := [.int a1]) C hl.1 hP hS (k_X1_canStand l G hC h0 hw) h0 rfl rfl mw_426 mw_428 mw_5 mw_60 mw_429 ⟨rfl, rfl⟩ hd_X1_canStand rfl rfl ⟨Nat.le_of_ble_eq_true rfl, Nat.le_of_ble_eq_true rfl⟩ (Nat.le_of_ble_eq_true rfl) ⟨Nat.zero_le _, Nat.zero_le _⟩ dX1_append_33 (fun r33 M33 H locs hw hP hS => ?_)
      refine lv_if_ne (pc := 36) (tgt := 47) hx hb dX1_append_36 (by decide) (fun h => ?_) (fun h => ?_)
      · replace hw := if_f h hw
        refine lv_aload_n (pc := 47) hx hb dX1_append_47 rfl (lv_at hl 0 rfl) ?_
        refine lv_dup (pc := 48) hx hb dX1_append_48 rfl ?_
        refine gf_176 (pc := 49) C hP h0 dX1_append_49 ?_
        refine lv_iconst (pc := 52) (v := (1 : Int32)) hx hb dX1_append_52 (by decide) ?_
        refine lv_iadd (pc := 53) hx hb dX1_append_53 ?_
        refine pf_176 (pc := 54) C hP hS h0 dX1_append_54 (fun H locs hP hS => ?_)
        refine lv_aload_n (pc := 57) hx hb dX1_append_57 rfl (lv_at hl 0 rfl) ?_
        refine r_cVI (pc := 58) (rest := []) (As := []) C hl.1 hP hS (k_X1_isFaulty l G hC h0 hw) h0 rfl rfl mw_444 mw_445 mw_446 mw_60 mw_447 ⟨rfl, rfl⟩ hd_X1_isFaulty rfl rfl ⟨Nat.le_of_ble_eq_true rfl, Nat.le_of_ble_eq_true rfl⟩ (Nat.le_of_ble_eq_true rfl) ⟨Nat.zero_le _, Nat.zero_le _⟩ dX1_append_58 (fun r58 M58 H locs hw hP hS => ?_)
        refine lv_if_ne (pc := 61) (tgt := 68) hx hb dX1_append_61 (by decide) (fun h => ?_) (fun h => ?_)
        · replace hw := if_f h hw
          refine lv_aload_n (pc := 68) hx hb dX1_append_68 rfl (lv_at hl 0 rfl) ?_
          refine gf_176 (pc := 69) C hP h0 dX1_append_69 ?_
          exact r_iret (pc := 72) C hP hS hw dX1_append_72
        · replace hw := if_t h hw
          refine lv_aload_n (pc := 64) hx hb dX1_append_64 rfl (lv_at hl 0 rfl) ?_
          refine r_cVV (pc := 65) (rest := []) (As := []) C hl.1 hP hS (k_X1_findParts l G hC h0 hw) h0 rfl rfl mw_448 mw_450 mw_8 mw_60 mw_451 ⟨rfl, rfl⟩ hd_X1_findParts rfl rfl ⟨Nat.le_of_ble_eq_true rfl, Nat.le_of_ble_eq_true rfl⟩ (Nat.le_of_ble_eq_true rfl) ⟨Nat.zero_le _, Nat.zero_le _⟩ dX1_append_65 (fun M65 H locs hw hP hS => ?_)
          refine lv_aload_n (pc := 68) hx hb dX1_append_68 rfl (lv_at hl 0 rfl) ?_
          refine gf_176 (pc := 69) C hP h0 dX1_append_69 ?_
          exact r_iret (pc := 72) C hP hS hw dX1_append_72
      · replace hw := if_t h hw
        refine lv_aload_n (pc := 39) hx hb dX1_append_39 rfl (lv_at hl 0 rfl) ?_
        refine lv_aload_n (pc := 40) hx hb dX1_append_40 rfl (lv_at hl 0 rfl) ?_
        refine gf_176 (pc := 41) C hP h0 dX1_append_41 ?_
        refine pf_196 (pc := 44) C hP hS h0 dX1_append_44 (fun H locs hP hS => ?_)
        refine lv_aload_n (pc := 47) hx hb dX1_append_47 rfl (lv_at hl 0 rfl) ?_
        refine lv_dup (pc := 48) hx hb dX1_append_48 rfl ?_
        refine gf_176 (pc := 49) C hP h0 dX1_append_49 ?_
        refine lv_iconst (pc := 52) (v := (1 : Int32)) hx hb dX1_append_52 (by decide) ?_
        refine lv_iadd (pc := 53) hx hb dX1_append_53 ?_
        refine pf_176 (pc := 54) C hP hS h0 dX1_append_54 (fun H locs hP hS => ?_)
        obtain ⟨M54, eM54⟩ : ∃ z : Mem, z = (mu (mu M33 (11, 0, 0, 0) 8 (M33.1 (11, 0, 0, 0) 0)) (11, 0, 0, 0) 0 (((mu M33 (11, 0, 0, 0) 8 (M33.1 (11, 0, 0, 0) 0)).1 (11, 0, 0, 0) 0) + (1 : Int32))) := ⟨_, rfl⟩
        replace hP : wd G I ad M54 H := by rw [eM54]; exact hP
        replace hw := hw M54 eM54
        refine lv_aload_n (pc := 57) hx hb dX1_append_57 rfl (lv_at hl 0 rfl) ?_
        refine r_cVI (pc := 58) (rest := []) (As := []) C hl.1 hP hS (k_X1_isFaulty l G hC h0 hw) h0 rfl rfl mw_444 mw_445 mw_446 mw_60 mw_447 ⟨rfl, rfl⟩ hd_X1_isFaulty rfl rfl ⟨Nat.le_of_ble_eq_true rfl, Nat.le_of_ble_eq_true rfl⟩ (Nat.le_of_ble_eq_true rfl) ⟨Nat.zero_le _, Nat.zero_le _⟩ dX1_append_58 (fun r58 M58 H locs hw hP hS => ?_)
        refine lv_if_ne (pc := 61) (tgt := 68) hx hb dX1_append_61 (by decide) (fun h => ?_) (fun h => ?_)
        · replace hw := if_f h hw
          refine lv_aload_n (pc := 68) hx hb dX1_append_68 rfl (lv_at hl 0 rfl) ?_
          refine gf_176 (pc := 69) C hP h0 dX1_append_69 ?_
          exact r_iret (pc := 72) C hP hS hw dX1_append_72
        · replace hw := if_t h hw
          refine lv_aload_n (pc := 64) hx hb dX1_append_64 rfl (lv_at hl 0 rfl) ?_
          refine r_cVV (pc := 65) (rest := []) (As := []) C hl.1 hP hS (k_X1_findParts l G hC h0 hw) h0 rfl rfl mw_448 mw_450 mw_8 mw_60 mw_451 ⟨rfl, rfl⟩ hd_X1_findParts rfl rfl ⟨Nat.le_of_ble_eq_true rfl, Nat.le_of_ble_eq_true rfl⟩ (Nat.le_of_ble_eq_true rfl) ⟨Nat.zero_le _, Nat.zero_le _⟩ dX1_append_65 (fun M65 H locs hw hP hS => ?_)
          refine lv_aload_n (pc := 68) hx hb dX1_append_68 rfl (lv_at hl 0 rfl) ?_
          refine gf_176 (pc := 69) C hP h0 dX1_append_69 ?_
          exact r_iret (pc := 72) C hP hS hw dX1_append_72
  · replace hw := if_f h hw
    refine lv_bipush (pc := 9) (v := (-4 : Int32)) hx hb dX1_append_9 (by decide) ?_
    exact r_iret (pc := 11) C hP hS hw dX1_append_11
end
theorem k_X1_append (l : Launch) (G : GG) {I : ix → Prop} {ad : ix → Nat} (hC : clo I) {a1 : Int32} (h0 : I (11, 0, 0, 0)) {Q : Int32 → Mem → Prop} {M : Mem} (hw : w_X1_append a1 Q M) : Met l yX1_append (wW yX1_append cX1_append 2 (some .int)) rm_X1_append (va_Pc [.ref (ad (11, 0, 0, 0)), .int a1] (fun U => wd G I ad M U.heap ∧ wK G U)) (qI G I ad Q) 0 0 (fA I ad) := met_of (by decide +kernel) (Nat.le_of_ble_eq_true rfl) (fun p e s m below meth c C hP hS ls hl => j_X1_append_0 C hC h0 _ _ _ _ hw hP hS hl)
section
variable {p : Program} {l : Launch} {e : Env} {s : State} {m : MethodId} {args : Array Value} {below : List Frame} {meth : Method} {c : Code} 
variable  {G : GG} {I : ix → Prop} {ad : ix → Nat}
set_option maxHeartbeats 4000000 in
set_option maxRecDepth 100000 in
theorem j_X1_faultPlace_0 (C : cx p s m args meth c cX1_faultPlace 1 (some .int) RX1 G) (hC : clo I) (h0 : I (11, 0, 0, 0)) {Q : Int32 → Mem → Prop} : ∀ (M : Mem) (H : Heap) (locs : List Loc) (ls : Array Slot), w_X1_faultPlace Q M → wd G I ad M H → va_S (fA I ad) s.heap H locs → lv_has ls 1 [(0, .ref (ad (11, 0, 0, 0)))] → W p l e rm_X1_faultPlace s m args below meth c H locs 0 0 (MQ below (qI G I ad Q) args s 0 0 (fA I ad)) (F0 m 0 ls []) := by
  have hx := C.1
  have hb := C.2.1
  have hown := C.2.2.2.1
  have hts := C.2.2.2.2.1
  intro M H locs ls hw hP hS hl
  unfold w_X1_faultPlace at hw
  refine lv_aload_n (pc := 0) hx hb dX1_faultPlace_0 rfl (lv_at hl 0 rfl) ?_
  refine gf_196 (pc := 1) C hP h0 dX1_faultPlace_1 ?_
  refine lv_ldc (pc := 4) (own := RX1) (v := (-2000000 : Int32)) hx hb hown (hts _ mw_171) dX1_faultPlace_4 ?_
  refine lv_icmp_eq (pc := 6) (tgt := 14) hx hb dX1_faultPlace_6 (by decide) (fun h => ?_) (fun h => ?_)
  · replace hw := if_t h hw
    refine lv_aload_n (pc := 14) hx hb dX1_faultPlace_14 rfl (lv_at hl 0 rfl) ?_
    refine gf_195 (pc := 15) C hP h0 dX1_faultPlace_15 ?_
    refine lv_if_le (pc := 18) (tgt := 28) hx hb dX1_faultPlace_18 (by decide) (fun h => ?_) (fun h => ?_)
    · replace hw := if_t h hw
      refine lv_ldc (pc := 28) (own := RX1) (v := (-2000000 : Int32)) hx hb hown (hts _ mw_171) dX1_faultPlace_28 ?_
      exact r_iret (pc := 30) C hP hS hw dX1_faultPlace_30
    · replace hw := if_f h hw
      refine lv_aload_n (pc := 21) hx hb dX1_faultPlace_21 rfl (lv_at hl 0 rfl) ?_
      refine gf_176 (pc := 22) C hP h0 dX1_faultPlace_22 ?_
      refine lv_goto (pc := 25) (tgt := 30) hx hb dX1_faultPlace_25 (by decide) ?_
      exact r_iret (pc := 30) C hP hS hw dX1_faultPlace_30
  · replace hw := if_f h hw
    refine lv_aload_n (pc := 9) hx hb dX1_faultPlace_9 rfl (lv_at hl 0 rfl) ?_
    refine gf_196 (pc := 10) C hP h0 dX1_faultPlace_10 ?_
    exact r_iret (pc := 13) C hP hS hw dX1_faultPlace_13
end
theorem k_X1_faultPlace (l : Launch) (G : GG) {I : ix → Prop} {ad : ix → Nat} (hC : clo I) (h0 : I (11, 0, 0, 0)) {Q : Int32 → Mem → Prop} {M : Mem} (hw : w_X1_faultPlace Q M) : Met l yX1_faultPlace (wW yX1_faultPlace cX1_faultPlace 1 (some .int)) rm_X1_faultPlace (va_Pc [.ref (ad (11, 0, 0, 0))] (fun U => wd G I ad M U.heap ∧ wK G U)) (qI G I ad Q) 0 0 (fA I ad) := met_of (by decide +kernel) (Nat.le_of_ble_eq_true rfl) (fun p e s m below meth c C hP hS ls hl => j_X1_faultPlace_0 C hC h0 _ _ _ _ hw hP hS hl)
section
variable {p : Program} {l : Launch} {e : Env} {s : State} {m : MethodId} {args : Array Value} {below : List Frame} {meth : Method} {c : Code} 
variable  {G : GG} {I : ix → Prop} {ad : ix → Nat}
set_option maxHeartbeats 4000000 in
set_option maxRecDepth 100000 in
theorem j_X1_onlyColumn_5 (C : cx p s m args meth c cX1_onlyColumn 3 (some .int) RX1 G) (hC : clo I) (h0 : I (11, 0, 0, 0)) {Q : Int32 → Mem → Prop} : ∀ (n : Nat), ∀ (x1 : Int32) (x2 : Int32) (M : Mem) (H : Heap) (locs : List Loc) (ls : Array Slot), w_X1_onlyColumn_5 Q n x1 x2 M → wd G I ad M H → va_S (fA I ad) s.heap H locs → lv_has ls 3 [(0, .ref (ad (11, 0, 0, 0))), (1, .int x1), (2, .int x2)] → W p l e rm_X1_onlyColumn s m args below meth c H locs 0 0 (MQ below (qI G I ad Q) args s 0 0 (fA I ad)) (F0 m 5 ls []) := by
  have hx := C.1
  have hb := C.2.1
  have hown := C.2.2.2.1
  have hts := C.2.2.2.2.1
  intro n
  induction n with
  | zero =>
    intro x1 x2 M H locs ls hw hP hS hl
    rw [w_X1_onlyColumn_5] at hw
    exact hw.elim
  | succ n ih =>
    intro x1 x2 M H locs ls hw hP hS hl
    rw [w_X1_onlyColumn_5] at hw
    refine lv_iload_n (pc := 5) hx hb dX1_onlyColumn_5 rfl (lv_at hl 2 rfl) ?_
    refine lv_aload_n (pc := 6) hx hb dX1_onlyColumn_6 rfl (lv_at hl 0 rfl) ?_
    refine gf_176 (pc := 7) C hP h0 dX1_onlyColumn_7 ?_
    refine lv_icmp_ge (pc := 10) (tgt := 63) hx hb dX1_onlyColumn_10 (by decide) (fun h => ?_) (fun h => ?_)
    · replace hw := if_t h hw
      refine lv_iload_n (pc := 63) hx hb dX1_onlyColumn_63 rfl (lv_at hl 1 rfl) ?_
      exact r_iret (pc := 64) C hP hS hw dX1_onlyColumn_64
    · replace hw := if_f h hw
      refine lv_aload_n (pc := 13) hx hb dX1_onlyColumn_13 rfl (lv_at hl 0 rfl) ?_
      refine gf_180 (pc := 14) C hP h0 dX1_onlyColumn_14 ?_
      refine lv_iload_n (pc := 17) hx hb dX1_onlyColumn_17 rfl (lv_at hl 2 rfl) ?_
      refine r_ialdK (pc := 18) (n := 60) (k := x2.toNatClampNeg) C hP (cl_11_1 hC h0) (fun _ _ _ _ => rfl) hw.1 rfl dX1_onlyColumn_18 ?_
      replace hw := hw.2
      refine r_cNI (pc := 19) (rest := []) (As := [.int (M.1 (12, 0, 0, 0) x2.toNatClampNeg)]) C hl.1 hP hS (k_X8_isLetter l G hC  hw) (List.mem_of_getElem? (i := 0) rfl) mw_439 mw_56 mw_440 ⟨rfl, rfl⟩ hd_X8_isLetter rfl rfl ⟨Nat.le_of_ble_eq_true rfl, Nat.le_of_ble_eq_true rfl⟩ (Nat.le_of_ble_eq_true rfl) ⟨Nat.zero_le _, Nat.zero_le _⟩ dX1_onlyColumn_19 (fun r19 M19 H locs hw hP hS => ?_)
      refine lv_if_eq (pc := 22) (tgt := 57) hx hb dX1_onlyColumn_22 (by decide) (fun h => ?_) (fun h => ?_)
      · replace hw := if_t h hw
        refine lv_iinc (pc := 57) (v := x2 + 1) (lv' := [(2, .int (x2 + 1)), (0, .ref (ad (11, 0, 0, 0))), (1, .int x1)]) hx hb dX1_onlyColumn_57 hl (k := 2) rfl rfl (by decide) rfl (fun ls hl => ?_)
        refine lv_goto (pc := 60) (tgt := 5) hx hb dX1_onlyColumn_60 (by decide) ?_
        exact ih x1 (x2 + 1) M19 _ _ _ hw hP hS (lv_sub hl [1, 2, 0] rfl)
      · replace hw := if_f h hw
        refine lv_iload_n (pc := 25) hx hb dX1_onlyColumn_25 rfl (lv_at hl 1 rfl) ?_
        refine lv_ldc (pc := 26) (own := RX1) (v := (-2000000 : Int32)) hx hb hown (hts _ mw_171) dX1_onlyColumn_26 ?_
        refine lv_icmp_eq (pc := 28) (tgt := 47) hx hb dX1_onlyColumn_28 (by decide) (fun h => ?_) (fun h => ?_)
        · replace hw := if_t h hw
          refine lv_aload_n (pc := 47) hx hb dX1_onlyColumn_47 rfl (lv_at hl 0 rfl) ?_
          refine gf_180 (pc := 48) C hP h0 dX1_onlyColumn_48 ?_
          refine lv_iload_n (pc := 51) hx hb dX1_onlyColumn_51 rfl (lv_at hl 2 rfl) ?_
          refine r_ialdK (pc := 52) (n := 60) (k := x2.toNatClampNeg) C hP (cl_11_1 hC h0) (fun _ _ _ _ => rfl) hw.1 rfl dX1_onlyColumn_52 ?_
          replace hw := hw.2
          refine lv_bipush (pc := 53) (v := (97 : Int32)) hx hb dX1_onlyColumn_53 (by decide) ?_
          refine lv_isub (pc := 55) hx hb dX1_onlyColumn_55 ?_
          refine lv_topi (fun x1_56 ex1_56 => ?_)
          replace hw := hw x1_56 ex1_56
          refine lv_istore_n (pc := 56) (lv' := [(1, .int x1_56), (0, .ref (ad (11, 0, 0, 0))), (2, .int x2)]) hx hb dX1_onlyColumn_56 rfl hl (by decide) rfl (fun ls hl => ?_)
          refine lv_iinc (pc := 57) (v := x2 + 1) (lv' := [(2, .int (x2 + 1)), (1, .int x1_56), (0, .ref (ad (11, 0, 0, 0)))]) hx hb dX1_onlyColumn_57 hl (k := 2) rfl rfl (by decide) rfl (fun ls hl => ?_)
          refine lv_goto (pc := 60) (tgt := 5) hx hb dX1_onlyColumn_60 (by decide) ?_
          exact ih x1_56 (x2 + 1) M19 _ _ _ hw hP hS (lv_sub hl [2, 1, 0] rfl)
        · replace hw := if_f h hw
          refine lv_iload_n (pc := 31) hx hb dX1_onlyColumn_31 rfl (lv_at hl 1 rfl) ?_
          refine lv_aload_n (pc := 32) hx hb dX1_onlyColumn_32 rfl (lv_at hl 0 rfl) ?_
          refine gf_180 (pc := 33) C hP h0 dX1_onlyColumn_33 ?_
          refine lv_iload_n (pc := 36) hx hb dX1_onlyColumn_36 rfl (lv_at hl 2 rfl) ?_
          refine r_ialdK (pc := 37) (n := 60) (k := x2.toNatClampNeg) C hP (cl_11_1 hC h0) (fun _ _ _ _ => rfl) hw.1 rfl dX1_onlyColumn_37 ?_
          replace hw := hw.2
          refine lv_bipush (pc := 38) (v := (97 : Int32)) hx hb dX1_onlyColumn_38 (by decide) ?_
          refine lv_isub (pc := 40) hx hb dX1_onlyColumn_40 ?_
          refine lv_icmp_eq (pc := 41) (tgt := 47) hx hb dX1_onlyColumn_41 (by decide) (fun h => ?_) (fun h => ?_)
          · replace hw := if_t h hw
            refine lv_aload_n (pc := 47) hx hb dX1_onlyColumn_47 rfl (lv_at hl 0 rfl) ?_
            refine gf_180 (pc := 48) C hP h0 dX1_onlyColumn_48 ?_
            refine lv_iload_n (pc := 51) hx hb dX1_onlyColumn_51 rfl (lv_at hl 2 rfl) ?_
            refine r_ialdK (pc := 52) (n := 60) (k := x2.toNatClampNeg) C hP (cl_11_1 hC h0) (fun _ _ _ _ => rfl) hw.1 rfl dX1_onlyColumn_52 ?_
            replace hw := hw.2
            refine lv_bipush (pc := 53) (v := (97 : Int32)) hx hb dX1_onlyColumn_53 (by decide) ?_
            refine lv_isub (pc := 55) hx hb dX1_onlyColumn_55 ?_
            refine lv_topi (fun x1_56 ex1_56 => ?_)
            replace hw := hw x1_56 ex1_56
            refine lv_istore_n (pc := 56) (lv' := [(1, .int x1_56), (0, .ref (ad (11, 0, 0, 0))), (2, .int x2)]) hx hb dX1_onlyColumn_56 rfl hl (by decide) rfl (fun ls hl => ?_)
            refine lv_iinc (pc := 57) (v := x2 + 1) (lv' := [(2, .int (x2 + 1)), (1, .int x1_56), (0, .ref (ad (11, 0, 0, 0)))]) hx hb dX1_onlyColumn_57 hl (k := 2) rfl rfl (by decide) rfl (fun ls hl => ?_)
            refine lv_goto (pc := 60) (tgt := 5) hx hb dX1_onlyColumn_60 (by decide) ?_
            exact ih x1_56 (x2 + 1) M19 _ _ _ hw hP hS (lv_sub hl [2, 1, 0] rfl)
          · replace hw := if_f h hw
            refine lv_ldc (pc := 44) (own := RX1) (v := (-2000000 : Int32)) hx hb hown (hts _ mw_171) dX1_onlyColumn_44 ?_
            exact r_iret (pc := 46) C hP hS hw dX1_onlyColumn_46
set_option maxHeartbeats 4000000 in
set_option maxRecDepth 100000 in
theorem j_X1_onlyColumn_0 (C : cx p s m args meth c cX1_onlyColumn 3 (some .int) RX1 G) (hC : clo I) (h0 : I (11, 0, 0, 0)) {Q : Int32 → Mem → Prop} : ∀ (M : Mem) (H : Heap) (locs : List Loc) (ls : Array Slot), w_X1_onlyColumn Q M → wd G I ad M H → va_S (fA I ad) s.heap H locs → lv_has ls 3 [(0, .ref (ad (11, 0, 0, 0)))] → W p l e rm_X1_onlyColumn s m args below meth c H locs 0 0 (MQ below (qI G I ad Q) args s 0 0 (fA I ad)) (F0 m 0 ls []) := by
  have hx := C.1
  have hb := C.2.1
  have hown := C.2.2.2.1
  have hts := C.2.2.2.2.1
  intro M H locs ls hw hP hS hl
  unfold w_X1_onlyColumn at hw
  refine lv_ldc (pc := 0) (own := RX1) (v := (-2000000 : Int32)) hx hb hown (hts _ mw_171) dX1_onlyColumn_0 ?_
  refine lv_istore_n (pc := 2) (lv' := [(1, .int (-2000000 : Int32)), (0, .ref (ad (11, 0, 0, 0)))]) hx hb dX1_onlyColumn_2 rfl hl (by decide) rfl (fun ls hl => ?_)
  refine lv_iconst (pc := 3) (v := (0 : Int32)) hx hb dX1_onlyColumn_3 (by decide) ?_
  refine lv_istore_n (pc := 4) (lv' := [(2, .int (0 : Int32)), (1, .int (-2000000 : Int32)), (0, .ref (ad (11, 0, 0, 0)))]) hx hb dX1_onlyColumn_4 rfl hl (by decide) rfl (fun ls hl => ?_)
  obtain ⟨n0, hw⟩ := hw
  exact j_X1_onlyColumn_5 C hC h0 n0 (-2000000 : Int32) (0 : Int32) M _ _ _ hw hP hS (lv_sub hl [2, 1, 0] rfl)
end
theorem k_X1_onlyColumn (l : Launch) (G : GG) {I : ix → Prop} {ad : ix → Nat} (hC : clo I) (h0 : I (11, 0, 0, 0)) {Q : Int32 → Mem → Prop} {M : Mem} (hw : w_X1_onlyColumn Q M) : Met l yX1_onlyColumn (wW yX1_onlyColumn cX1_onlyColumn 3 (some .int)) rm_X1_onlyColumn (va_Pc [.ref (ad (11, 0, 0, 0))] (fun U => wd G I ad M U.heap ∧ wK G U)) (qI G I ad Q) 0 0 (fA I ad) := met_of (by decide +kernel) (Nat.le_of_ble_eq_true rfl) (fun p e s m below meth c C hP hS ls hl => j_X1_onlyColumn_0 C hC h0 _ _ _ _ hw hP hS hl)
section
variable {p : Program} {l : Launch} {e : Env} {s : State} {m : MethodId} {args : Array Value} {below : List Frame} {meth : Method} {c : Code} 
variable  {G : GG} {I : ix → Prop} {ad : ix → Nat}
set_option maxHeartbeats 4000000 in
set_option maxRecDepth 100000 in
theorem j_X2_kindAt_0 {a1 : Int32} {s2 : Nat} {b2 : Nat} (C : cx p s m args meth c cX2_kindAt 6 (some .int) RX2 G) (hC : clo I) (h0 : I (20, 0, 0, 0)) (h2 : I (3, s2, b2, 0)) {Q : Int32 → Mem → Prop} : ∀ (M : Mem) (H : Heap) (locs : List Loc) (ls : Array Slot), w_X2_kindAt a1 s2 b2 Q M → wd G I ad M H → va_S (fA I ad) s.heap H locs → lv_has ls 6 [(0, .ref (ad (20, 0, 0, 0))), (1, .int a1), (2, .ref (ad (3, s2, b2, 0)))] → W p l e rm_X2_kindAt s m args below meth c H locs 0 0 (MQ below (qI G I ad Q) args s 0 0 (fA I ad)) (F0 m 0 ls []) := by
  have hx := C.1
  have hb := C.2.1
  have hown := C.2.2.2.1
  have hts := C.2.2.2.2.1
  intro M H locs ls hw hP hS hl
  unfold w_X2_kindAt at hw
  refine lv_aload_n (pc := 0) hx hb dX2_kindAt_0 rfl (lv_at hl 0 rfl) ?_
  refine gf_241 (pc := 1) C hP h0 dX2_kindAt_1 ?_
  refine gf_182 (pc := 4) C hP (cl_20_3 hC h0) dX2_kindAt_4 ?_
  refine lv_iload_n (pc := 7) hx hb dX2_kindAt_7 rfl (lv_at hl 1 rfl) ?_
  refine r_ialdK (pc := 8) (n := 60) (k := a1.toNatClampNeg) C hP (cl_11_1 hC (cl_20_3 hC h0)) (fun _ _ _ _ => rfl) hw.1 rfl dX2_kindAt_8 ?_
  replace hw := hw.2
  refine lv_topi (fun x3_9 ex3_9 => ?_)
  replace hw := hw x3_9 ex3_9
  refine lv_istore_n (pc := 9) (lv' := [(3, .int x3_9), (0, .ref (ad (20, 0, 0, 0))), (1, .int a1), (2, .ref (ad (3, s2, b2, 0)))]) hx hb dX2_kindAt_9 rfl hl (by decide) rfl (fun ls hl => ?_)
  refine lv_iload_n (pc := 10) hx hb dX2_kindAt_10 rfl (lv_at hl 0 rfl) ?_
  refine r_cNI (pc := 11) (rest := []) (As := [.int x3_9]) C hl.1 hP hS (k_X8_isLetter l G hC  hw) (List.mem_of_getElem? (i := 17) rfl) mw_439 mw_56 mw_440 ⟨rfl, rfl⟩ hd_X8_isLetter rfl rfl ⟨Nat.le_of_ble_eq_true rfl, Nat.le_of_ble_eq_true rfl⟩ (Nat.le_of_ble_eq_true rfl) ⟨Nat.zero_le _, Nat.zero_le _⟩ dX2_kindAt_11 (fun r11 M11 H locs hw hP hS => ?_)
  refine lv_if_eq (pc := 14) (tgt := 62) hx hb dX2_kindAt_14 (by decide) (fun h => ?_) (fun h => ?_)
  · replace hw := if_t h hw
    refine lv_iload_n (pc := 62) hx hb dX2_kindAt_62 rfl (lv_at hl 0 rfl) ?_
    refine r_cNI (pc := 63) (rest := []) (As := [.int x3_9]) C hl.1 hP hS (k_X8_isFigure l G hC  hw) (List.mem_of_getElem? (i := 18) rfl) mw_442 mw_56 mw_443 ⟨rfl, rfl⟩ hd_X8_isFigure rfl rfl ⟨Nat.le_of_ble_eq_true rfl, Nat.le_of_ble_eq_true rfl⟩ (Nat.le_of_ble_eq_true rfl) ⟨Nat.zero_le _, Nat.zero_le _⟩ dX2_kindAt_63 (fun r63 M63 H locs hw hP hS => ?_)
    refine lv_if_ne (pc := 66) (tgt := 75) hx hb dX2_kindAt_66 (by decide) (fun h => ?_) (fun h => ?_)
    · replace hw := if_f h hw
      refine lv_iconst (pc := 75) (v := (1 : Int32)) hx hb dX2_kindAt_75 (by decide) ?_
      exact r_iret (pc := 76) C hP hS hw dX2_kindAt_76
    · replace hw := if_t h hw
      refine lv_iload_n (pc := 69) hx hb dX2_kindAt_69 rfl (lv_at hl 0 rfl) ?_
      refine lv_bipush (pc := 70) (v := (35 : Int32)) hx hb dX2_kindAt_70 (by decide) ?_
      refine lv_icmp_ne (pc := 72) (tgt := 77) hx hb dX2_kindAt_72 (by decide) (fun h => ?_) (fun h => ?_)
      · replace hw := if_f h hw
        refine lv_aload_n (pc := 77) hx hb dX2_kindAt_77 rfl (lv_at hl 1 rfl) ?_
        refine gf_235 (pc := 78) C hP h0 dX2_kindAt_78 ?_
        refine lv_iload_n (pc := 81) hx hb dX2_kindAt_81 rfl (lv_at hl 2 rfl) ?_
        refine lv_iconst (pc := 82) (v := (1 : Int32)) hx hb dX2_kindAt_82 (by decide) ?_
        refine lv_iadd (pc := 83) hx hb dX2_kindAt_83 ?_
        refine r_cNI (pc := 84) (rest := []) (As := [.ref (ad (21, 0, 0, 0)), .int (a1 + (1 : Int32))]) C hl.1 hP hS (k_X8_at l G hC (cl_20_0 hC h0) (fun _ _ _ _ => rfl) hw) (List.mem_of_getElem? (i := 11) rfl) mw_453 mw_56 mw_454 ⟨rfl, rfl⟩ hd_X8_at rfl rfl ⟨Nat.le_of_ble_eq_true rfl, Nat.le_of_ble_eq_true rfl⟩ (Nat.le_of_ble_eq_true rfl) ⟨Nat.zero_le _, Nat.zero_le _⟩ dX2_kindAt_84 (fun r84 M84 H locs hw hP hS => ?_)
        refine lv_istore (pc := 87) (lv' := [(4, .int r84), (3, .int x3_9), (0, .ref (ad (20, 0, 0, 0))), (1, .int a1), (2, .ref (ad (3, s2, b2, 0)))]) hx hb dX2_kindAt_87 hl (by decide) rfl (fun ls hl => ?_)
        refine lv_iload_n (pc := 89) hx hb dX2_kindAt_89 rfl (lv_at hl 1 rfl) ?_
        refine r_cNI (pc := 90) (rest := []) (As := [.int x3_9]) C hl.1 hP hS (k_X8_isSum l G hC  hw) (List.mem_of_getElem? (i := 19) rfl) mw_467 mw_56 mw_468 ⟨rfl, rfl⟩ hd_X8_isSum rfl rfl ⟨Nat.le_of_ble_eq_true rfl, Nat.le_of_ble_eq_true rfl⟩ (Nat.le_of_ble_eq_true rfl) ⟨Nat.zero_le _, Nat.zero_le _⟩ dX2_kindAt_90 (fun r90 M90 H locs hw hP hS => ?_)
        refine lv_if_ne (pc := 93) (tgt := 99) hx hb dX2_kindAt_93 (by decide) (fun h => ?_) (fun h => ?_)
        · replace hw := if_f h hw
          refine lv_aload_n (pc := 99) hx hb dX2_kindAt_99 rfl (lv_at hl 2 rfl) ?_
          refine gf_235 (pc := 100) C hP h0 dX2_kindAt_100 ?_
          refine lv_aload_n (pc := 103) hx hb dX2_kindAt_103 rfl (lv_at hl 2 rfl) ?_
          refine gf_241 (pc := 104) C hP h0 dX2_kindAt_104 ?_
          refine gf_188 (pc := 107) C hP (cl_20_3 hC h0) dX2_kindAt_107 ?_
          refine lv_iload_n (pc := 110) hx hb dX2_kindAt_110 rfl (lv_at hl 3 rfl) ?_
          refine r_ialdK (pc := 111) (n := 60) (k := a1.toNatClampNeg) C hP (cl_11_3 hC (cl_20_3 hC h0)) (fun _ _ _ _ => rfl) hw.1 rfl dX2_kindAt_111 ?_
          replace hw := hw.2
          refine r_cNI (pc := 112) (rest := []) (As := [.ref (ad (21, 0, 0, 0)), .int (M90.1 (14, 0, 0, 0) a1.toNatClampNeg)]) C hl.1 hP hS (k_X8_at l G hC (cl_20_0 hC h0) (fun _ _ _ _ => rfl) hw) (List.mem_of_getElem? (i := 11) rfl) mw_453 mw_56 mw_454 ⟨rfl, rfl⟩ hd_X8_at rfl rfl ⟨Nat.le_of_ble_eq_true rfl, Nat.le_of_ble_eq_true rfl⟩ (Nat.le_of_ble_eq_true rfl) ⟨Nat.zero_le _, Nat.zero_le _⟩ dX2_kindAt_112 (fun r112 M112 H locs hw hP hS => ?_)
          refine lv_istore (pc := 115) (lv' := [(5, .int r112), (4, .int r84), (3, .int x3_9), (0, .ref (ad (20, 0, 0, 0))), (1, .int a1), (2, .ref (ad (3, s2, b2, 0)))]) hx hb dX2_kindAt_115 hl (by decide) rfl (fun ls hl => ?_)
          refine lv_iload (pc := 117) hx hb dX2_kindAt_117 (lv_at hl 1 rfl) ?_
          refine lv_iload (pc := 119) hx hb dX2_kindAt_119 (lv_at hl 0 rfl) ?_
          refine lv_iand (pc := 121) hx hb dX2_kindAt_121 ?_
          refine lv_iconst (pc := 122) (v := (1 : Int32)) hx hb dX2_kindAt_122 (by decide) ?_
          refine lv_iand (pc := 123) hx hb dX2_kindAt_123 ?_
          refine lv_iload (pc := 124) hx hb dX2_kindAt_124 (lv_at hl 1 rfl) ?_
          refine lv_iload (pc := 126) hx hb dX2_kindAt_126 (lv_at hl 0 rfl) ?_
          refine lv_ior (pc := 128) hx hb dX2_kindAt_128 ?_
          refine lv_iconst (pc := 129) (v := (2 : Int32)) hx hb dX2_kindAt_129 (by decide) ?_
          refine lv_iand (pc := 130) hx hb dX2_kindAt_130 ?_
          refine lv_ior (pc := 131) hx hb dX2_kindAt_131 ?_
          exact r_iret (pc := 132) C hP hS hw dX2_kindAt_132
        · replace hw := if_t h hw
          refine lv_iload (pc := 96) hx hb dX2_kindAt_96 (lv_at hl 0 rfl) ?_
          exact r_iret (pc := 98) C hP hS hw dX2_kindAt_98
      · replace hw := if_t h hw
        refine lv_iconst (pc := 75) (v := (1 : Int32)) hx hb dX2_kindAt_75 (by decide) ?_
        exact r_iret (pc := 76) C hP hS hw dX2_kindAt_76
  · replace hw := if_f h hw
    refine lv_aload_n (pc := 17) hx hb dX2_kindAt_17 rfl (lv_at hl 3 rfl) ?_
    refine gf_143 (pc := 18) C hP h2 dX2_kindAt_18 ?_
    refine lv_iload_n (pc := 21) hx hb dX2_kindAt_21 rfl (lv_at hl 0 rfl) ?_
    refine lv_bipush (pc := 22) (v := (97 : Int32)) hx hb dX2_kindAt_22 (by decide) ?_
    refine lv_isub (pc := 24) hx hb dX2_kindAt_24 ?_
    refine r_aald6 (pc := 25) C hP (cl_3_2 hC h2) hw.1 dX2_kindAt_25 ?_
    have hi25 := in_lt hw.1
    replace hw := hw.2
    refine gf_110 (pc := 26) C hP (cl_6_e hC (cl_3_2 hC h2) hi25) dX2_kindAt_26 ?_
    refine lv_topi (fun x4_29 ex4_29 => ?_)
    replace hw := hw x4_29 ex4_29
    refine lv_istore (pc := 29) (lv' := [(4, .int x4_29), (3, .int x3_9), (0, .ref (ad (20, 0, 0, 0))), (1, .int a1), (2, .ref (ad (3, s2, b2, 0)))]) hx hb dX2_kindAt_29 hl (by decide) rfl (fun ls hl => ?_)
    refine lv_iload (pc := 31) hx hb dX2_kindAt_31 (lv_at hl 0 rfl) ?_
    refine lv_if_le (pc := 33) (tgt := 40) hx hb dX2_kindAt_33 (by decide) (fun h => ?_) (fun h => ?_)
    · replace hw := if_t h hw
      refine lv_iconst (pc := 40) (v := (0 : Int32)) hx hb dX2_kindAt_40 (by decide) ?_
      refine lv_istore (pc := 41) (lv' := [(5, .int (0 : Int32)), (4, .int x4_29), (3, .int x3_9), (0, .ref (ad (20, 0, 0, 0))), (1, .int a1), (2, .ref (ad (3, s2, b2, 0)))]) hx hb dX2_kindAt_41 hl (by decide) rfl (fun ls hl => ?_)
      refine lv_iload (pc := 43) hx hb dX2_kindAt_43 (lv_at hl 1 rfl) ?_
      refine lv_aload_n (pc := 45) hx hb dX2_kindAt_45 rfl (lv_at hl 5 rfl) ?_
      refine gf_138 (pc := 46) C hP h2 dX2_kindAt_46 ?_
      refine lv_icmp_ge (pc := 49) (tgt := 59) hx hb dX2_kindAt_49 (by decide) (fun h => ?_) (fun h => ?_)
      · replace hw := if_t h hw
        refine lv_iload (pc := 59) hx hb dX2_kindAt_59 (lv_at hl 0 rfl) ?_
        exact r_iret (pc := 61) C hP hS hw dX2_kindAt_61
      · replace hw := if_f h hw
        refine lv_iload (pc := 52) hx hb dX2_kindAt_52 (lv_at hl 0 rfl) ?_
        refine lv_iconst (pc := 54) (v := (1 : Int32)) hx hb dX2_kindAt_54 (by decide) ?_
        refine lv_ior (pc := 55) hx hb dX2_kindAt_55 ?_
        refine lv_goto (pc := 56) (tgt := 61) hx hb dX2_kindAt_56 (by decide) ?_
        exact r_iret (pc := 61) C hP hS hw dX2_kindAt_61
    · replace hw := if_f h hw
      refine lv_iconst (pc := 36) (v := (2 : Int32)) hx hb dX2_kindAt_36 (by decide) ?_
      refine lv_goto (pc := 37) (tgt := 41) hx hb dX2_kindAt_37 (by decide) ?_
      refine lv_istore (pc := 41) (lv' := [(5, .int (2 : Int32)), (4, .int x4_29), (3, .int x3_9), (0, .ref (ad (20, 0, 0, 0))), (1, .int a1), (2, .ref (ad (3, s2, b2, 0)))]) hx hb dX2_kindAt_41 hl (by decide) rfl (fun ls hl => ?_)
      refine lv_iload (pc := 43) hx hb dX2_kindAt_43 (lv_at hl 1 rfl) ?_
      refine lv_aload_n (pc := 45) hx hb dX2_kindAt_45 rfl (lv_at hl 5 rfl) ?_
      refine gf_138 (pc := 46) C hP h2 dX2_kindAt_46 ?_
      refine lv_icmp_ge (pc := 49) (tgt := 59) hx hb dX2_kindAt_49 (by decide) (fun h => ?_) (fun h => ?_)
      · replace hw := if_t h hw
        refine lv_iload (pc := 59) hx hb dX2_kindAt_59 (lv_at hl 0 rfl) ?_
        exact r_iret (pc := 61) C hP hS hw dX2_kindAt_61
      · replace hw := if_f h hw
        refine lv_iload (pc := 52) hx hb dX2_kindAt_52 (lv_at hl 0 rfl) ?_
        refine lv_iconst (pc := 54) (v := (1 : Int32)) hx hb dX2_kindAt_54 (by decide) ?_
        refine lv_ior (pc := 55) hx hb dX2_kindAt_55 ?_
        refine lv_goto (pc := 56) (tgt := 61) hx hb dX2_kindAt_56 (by decide) ?_
        exact r_iret (pc := 61) C hP hS hw dX2_kindAt_61
end
theorem k_X2_kindAt (l : Launch) (G : GG) {I : ix → Prop} {ad : ix → Nat} (hC : clo I) {a1 : Int32} {s2 : Nat} {b2 : Nat} (h0 : I (20, 0, 0, 0)) (h2 : I (3, s2, b2, 0)) {Q : Int32 → Mem → Prop} {M : Mem} (hw : w_X2_kindAt a1 s2 b2 Q M) : Met l yX2_kindAt (wW yX2_kindAt cX2_kindAt 6 (some .int)) rm_X2_kindAt (va_Pc [.ref (ad (20, 0, 0, 0)), .int a1, .ref (ad (3, s2, b2, 0))] (fun U => wd G I ad M U.heap ∧ wK G U)) (qI G I ad Q) 0 0 (fA I ad) := met_of (by decide +kernel) (Nat.le_of_ble_eq_true rfl) (fun p e s m below meth c C hP hS ls hl => j_X2_kindAt_0 C hC h0 h2 _ _ _ _ hw hP hS hl)
section
variable {p : Program} {l : Launch} {e : Env} {s : State} {m : MethodId} {args : Array Value} {below : List Frame} {meth : Method} {c : Code} 
variable  {G : GG} {I : ix → Prop} {ad : ix → Nat}
set_option maxHeartbeats 4000000 in
set_option maxRecDepth 100000 in
theorem j_X2_setBounds_0 {a1 : Int32} {a2 : Int32} {a3 : Int32} (C : cx p s m args meth c cX2_setBounds 4 none RX2 G) (hC : clo I) (h0 : I (20, 0, 0, 0)) {Q : Mem → Prop} : ∀ (M : Mem) (H : Heap) (locs : List Loc) (ls : Array Slot), w_X2_setBounds a1 a2 a3 Q M → wd G I ad M H → va_S (fA I ad) s.heap H locs → lv_has ls 4 [(0, .ref (ad (20, 0, 0, 0))), (1, .int a1), (2, .int a2), (3, .int a3)] → W p l e rm_X2_setBounds s m args below meth c H locs 0 0 (MQ below (qV G I ad Q) args s 0 0 (fA I ad)) (F0 m 0 ls []) := by
  have hx := C.1
  have hb := C.2.1
  have hown := C.2.2.2.1
  have hts := C.2.2.2.2.1
  intro M H locs ls hw hP hS hl
  unfold w_X2_setBounds at hw
  refine lv_aload_n (pc := 0) hx hb dX2_setBounds_0 rfl (lv_at hl 0 rfl) ?_
  refine gf_237 (pc := 1) C hP h0 dX2_setBounds_1 ?_
  refine lv_iload_n (pc := 4) hx hb dX2_setBounds_4 rfl (lv_at hl 1 rfl) ?_
  refine lv_iload_n (pc := 5) hx hb dX2_setBounds_5 rfl (lv_at hl 2 rfl) ?_
  refine r_iastK (pc := 6) (n := 60) (k := a1.toNatClampNeg) C hP hS (cl_20_1 hC h0) (fun _ _ _ _ => rfl) hw.1 rfl dX2_setBounds_6 (fun H locs hP hS => ?_)
  replace hw := hw.2
  refine lv_aload_n (pc := 7) hx hb dX2_setBounds_7 rfl (lv_at hl 0 rfl) ?_
  refine gf_239 (pc := 8) C hP h0 dX2_setBounds_8 ?_
  refine lv_iload_n (pc := 11) hx hb dX2_setBounds_11 rfl (lv_at hl 1 rfl) ?_
  refine lv_iload_n (pc := 12) hx hb dX2_setBounds_12 rfl (lv_at hl 3 rfl) ?_
  refine r_iastK (pc := 13) (n := 60) (k := a1.toNatClampNeg) C hP hS (cl_20_2 hC h0) (fun _ _ _ _ => rfl) hw.1 rfl dX2_setBounds_13 (fun H locs hP hS => ?_)
  replace hw := hw.2
  exact r_vret (pc := 14) C hP hS hw dX2_setBounds_14
end
theorem k_X2_setBounds (l : Launch) (G : GG) {I : ix → Prop} {ad : ix → Nat} (hC : clo I) {a1 : Int32} {a2 : Int32} {a3 : Int32} (h0 : I (20, 0, 0, 0)) {Q : Mem → Prop} {M : Mem} (hw : w_X2_setBounds a1 a2 a3 Q M) : Met l yX2_setBounds (wW yX2_setBounds cX2_setBounds 4 none) rm_X2_setBounds (va_Pc [.ref (ad (20, 0, 0, 0)), .int a1, .int a2, .int a3] (fun U => wd G I ad M U.heap ∧ wK G U)) (qV G I ad Q) 0 0 (fA I ad) := met_of (by decide +kernel) (Nat.le_of_ble_eq_true rfl) (fun p e s m below meth c C hP hS ls hl => j_X2_setBounds_0 C hC h0 _ _ _ _ hw hP hS hl)
section
variable {p : Program} {l : Launch} {e : Env} {s : State} {m : MethodId} {args : Array Value} {below : List Frame} {meth : Method} {c : Code} 
variable  {G : GG} {I : ix → Prop} {ad : ix → Nat}
set_option maxHeartbeats 4000000 in
set_option maxRecDepth 100000 in
theorem j_X2_leftOverBounds_52 {a1 : Int32} {a2 : Int32} {a3 : Int32} {a4 : Int32} (C : cx p s m args meth c cX2_leftOverBounds 8 none RX2 G) (hC : clo I) (h0 : I (20, 0, 0, 0)) {Q : Mem → Prop} : ∀ (M : Mem) (H : Heap) (locs : List Loc) (ls : Array Slot), w_X2_leftOverBounds_52 a1 a2 a3 a4 Q M → wd G I ad M H → va_S (fA I ad) s.heap H locs → lv_has ls 8 [(0, .ref (ad (20, 0, 0, 0))), (1, .int a1), (2, .int a2), (3, .int a3), (4, .int a4)] → W p l e rm_X2_leftOverBounds s m args below meth c H locs 0 0 (MQ below (qV G I ad Q) args s 0 0 (fA I ad)) (F0 m 52 ls []) := by
  have hx := C.1
  have hb := C.2.1
  have hown := C.2.2.2.1
  have hts := C.2.2.2.2.1
  intro M H locs ls hw hP hS hl
  unfold w_X2_leftOverBounds_52 at hw
  refine lv_iload_n (pc := 52) hx hb dX2_leftOverBounds_52 rfl (lv_at hl 2 rfl) ?_
  refine lv_if_lt (pc := 53) (tgt := 60) hx hb dX2_leftOverBounds_53 (by decide) (fun h => ?_) (fun h => ?_)
  · replace hw := if_t h hw
    refine lv_iload_n (pc := 60) hx hb dX2_leftOverBounds_60 rfl (lv_at hl 2 rfl) ?_
    refine lv_iconst (pc := 61) (v := (1 : Int32)) hx hb dX2_leftOverBounds_61 (by decide) ?_
    refine lv_iload (pc := 62) hx hb dX2_leftOverBounds_62 (lv_at hl 4 rfl) ?_
    refine lv_isub (pc := 64) hx hb dX2_leftOverBounds_64 ?_
    refine r_max (pc := 65) (rest := []) C hl.1 mw_582 mw_344 mw_66 mw_345 (Nat.le_of_ble_eq_true rfl) (Nat.le_of_ble_eq_true rfl) (Nat.zero_le _) (Nat.zero_le _) dX2_leftOverBounds_65 ?_
    refine lv_topi (fun x6_68 ex6_68 => ?_)
    replace hw := hw x6_68 ex6_68
    refine lv_istore (pc := 68) (lv' := [(6, .int x6_68), (0, .ref (ad (20, 0, 0, 0))), (1, .int a1), (2, .int a2), (3, .int a3), (4, .int a4)]) hx hb dX2_leftOverBounds_68 hl (by decide) rfl (fun ls hl => ?_)
    refine lv_iload_n (pc := 70) hx hb dX2_leftOverBounds_70 rfl (lv_at hl 4 rfl) ?_
    refine lv_if_gt (pc := 71) (tgt := 78) hx hb dX2_leftOverBounds_71 (by decide) (fun h => ?_) (fun h => ?_)
    · replace hw := if_t h hw
      refine lv_iload_n (pc := 78) hx hb dX2_leftOverBounds_78 rfl (lv_at hl 4 rfl) ?_
      refine lv_iload (pc := 79) hx hb dX2_leftOverBounds_79 (lv_at hl 5 rfl) ?_
      refine lv_iconst (pc := 81) (v := (1 : Int32)) hx hb dX2_leftOverBounds_81 (by decide) ?_
      refine lv_isub (pc := 82) hx hb dX2_leftOverBounds_82 ?_
      refine r_min (pc := 83) (rest := []) C hl.1 mw_583 mw_341 mw_66 mw_342 (Nat.le_of_ble_eq_true rfl) (Nat.le_of_ble_eq_true rfl) (Nat.zero_le _) (Nat.zero_le _) dX2_leftOverBounds_83 ?_
      refine lv_topi (fun x7_86 ex7_86 => ?_)
      replace hw := hw x7_86 ex7_86
      refine lv_istore (pc := 86) (lv' := [(7, .int x7_86), (6, .int x6_68), (0, .ref (ad (20, 0, 0, 0))), (1, .int a1), (2, .int a2), (3, .int a3), (4, .int a4)]) hx hb dX2_leftOverBounds_86 hl (by decide) rfl (fun ls hl => ?_)
      refine lv_aload_n (pc := 88) hx hb dX2_leftOverBounds_88 rfl (lv_at hl 2 rfl) ?_
      refine lv_iload_n (pc := 89) hx hb dX2_leftOverBounds_89 rfl (lv_at hl 3 rfl) ?_
      refine lv_iload (pc := 90) hx hb dX2_leftOverBounds_90 (lv_at hl 1 rfl) ?_
      refine lv_iload (pc := 92) hx hb dX2_leftOverBounds_92 (lv_at hl 0 rfl) ?_
      refine r_cVV (pc := 94) (rest := []) (As := [.int a1, .int x6_68, .int x7_86]) C hl.1 hP hS (k_X2_setBounds l G hC h0 hw) h0 rfl rfl mw_570 mw_572 mw_18 mw_62 mw_573 ⟨rfl, rfl⟩ hd_X2_setBounds rfl rfl ⟨Nat.le_of_ble_eq_true rfl, Nat.le_of_ble_eq_true rfl⟩ (Nat.le_of_ble_eq_true rfl) ⟨Nat.zero_le _, Nat.zero_le _⟩ dX2_leftOverBounds_94 (fun M94 H locs hw hP hS => ?_)
      exact r_vret (pc := 97) C hP hS hw dX2_leftOverBounds_97
    · replace hw := if_f h hw
      refine lv_iconst (pc := 74) (v := (0 : Int32)) hx hb dX2_leftOverBounds_74 (by decide) ?_
      refine lv_goto (pc := 75) (tgt := 86) hx hb dX2_leftOverBounds_75 (by decide) ?_
      refine lv_istore (pc := 86) (lv' := [(7, .int (0 : Int32)), (6, .int x6_68), (0, .ref (ad (20, 0, 0, 0))), (1, .int a1), (2, .int a2), (3, .int a3), (4, .int a4)]) hx hb dX2_leftOverBounds_86 hl (by decide) rfl (fun ls hl => ?_)
      refine lv_aload_n (pc := 88) hx hb dX2_leftOverBounds_88 rfl (lv_at hl 2 rfl) ?_
      refine lv_iload_n (pc := 89) hx hb dX2_leftOverBounds_89 rfl (lv_at hl 3 rfl) ?_
      refine lv_iload (pc := 90) hx hb dX2_leftOverBounds_90 (lv_at hl 1 rfl) ?_
      refine lv_iload (pc := 92) hx hb dX2_leftOverBounds_92 (lv_at hl 0 rfl) ?_
      refine r_cVV (pc := 94) (rest := []) (As := [.int a1, .int x6_68, .int (0 : Int32)]) C hl.1 hP hS (k_X2_setBounds l G hC h0 hw) h0 rfl rfl mw_570 mw_572 mw_18 mw_62 mw_573 ⟨rfl, rfl⟩ hd_X2_setBounds rfl rfl ⟨Nat.le_of_ble_eq_true rfl, Nat.le_of_ble_eq_true rfl⟩ (Nat.le_of_ble_eq_true rfl) ⟨Nat.zero_le _, Nat.zero_le _⟩ dX2_leftOverBounds_94 (fun M94 H locs hw hP hS => ?_)
      exact r_vret (pc := 97) C hP hS hw dX2_leftOverBounds_97
  · replace hw := if_f h hw
    refine lv_iconst (pc := 56) (v := (0 : Int32)) hx hb dX2_leftOverBounds_56 (by decide) ?_
    refine lv_goto (pc := 57) (tgt := 68) hx hb dX2_leftOverBounds_57 (by decide) ?_
    refine lv_istore (pc := 68) (lv' := [(6, .int (0 : Int32)), (0, .ref (ad (20, 0, 0, 0))), (1, .int a1), (2, .int a2), (3, .int a3), (4, .int a4)]) hx hb dX2_leftOverBounds_68 hl (by decide) rfl (fun ls hl => ?_)
    refine lv_iload_n (pc := 70) hx hb dX2_leftOverBounds_70 rfl (lv_at hl 4 rfl) ?_
    refine lv_if_gt (pc := 71) (tgt := 78) hx hb dX2_leftOverBounds_71 (by decide) (fun h => ?_) (fun h => ?_)
    · replace hw := if_t h hw
      refine lv_iload_n (pc := 78) hx hb dX2_leftOverBounds_78 rfl (lv_at hl 4 rfl) ?_
      refine lv_iload (pc := 79) hx hb dX2_leftOverBounds_79 (lv_at hl 5 rfl) ?_
      refine lv_iconst (pc := 81) (v := (1 : Int32)) hx hb dX2_leftOverBounds_81 (by decide) ?_
      refine lv_isub (pc := 82) hx hb dX2_leftOverBounds_82 ?_
      refine r_min (pc := 83) (rest := []) C hl.1 mw_583 mw_341 mw_66 mw_342 (Nat.le_of_ble_eq_true rfl) (Nat.le_of_ble_eq_true rfl) (Nat.zero_le _) (Nat.zero_le _) dX2_leftOverBounds_83 ?_
      refine lv_topi (fun x7_86 ex7_86 => ?_)
      replace hw := hw x7_86 ex7_86
      refine lv_istore (pc := 86) (lv' := [(7, .int x7_86), (6, .int (0 : Int32)), (0, .ref (ad (20, 0, 0, 0))), (1, .int a1), (2, .int a2), (3, .int a3), (4, .int a4)]) hx hb dX2_leftOverBounds_86 hl (by decide) rfl (fun ls hl => ?_)
      refine lv_aload_n (pc := 88) hx hb dX2_leftOverBounds_88 rfl (lv_at hl 2 rfl) ?_
      refine lv_iload_n (pc := 89) hx hb dX2_leftOverBounds_89 rfl (lv_at hl 3 rfl) ?_
      refine lv_iload (pc := 90) hx hb dX2_leftOverBounds_90 (lv_at hl 1 rfl) ?_
      refine lv_iload (pc := 92) hx hb dX2_leftOverBounds_92 (lv_at hl 0 rfl) ?_
      refine r_cVV (pc := 94) (rest := []) (As := [.int a1, .int (0 : Int32), .int x7_86]) C hl.1 hP hS (k_X2_setBounds l G hC h0 hw) h0 rfl rfl mw_570 mw_572 mw_18 mw_62 mw_573 ⟨rfl, rfl⟩ hd_X2_setBounds rfl rfl ⟨Nat.le_of_ble_eq_true rfl, Nat.le_of_ble_eq_true rfl⟩ (Nat.le_of_ble_eq_true rfl) ⟨Nat.zero_le _, Nat.zero_le _⟩ dX2_leftOverBounds_94 (fun M94 H locs hw hP hS => ?_)
      exact r_vret (pc := 97) C hP hS hw dX2_leftOverBounds_97
    · replace hw := if_f h hw
      refine lv_iconst (pc := 74) (v := (0 : Int32)) hx hb dX2_leftOverBounds_74 (by decide) ?_
      refine lv_goto (pc := 75) (tgt := 86) hx hb dX2_leftOverBounds_75 (by decide) ?_
      refine lv_istore (pc := 86) (lv' := [(7, .int (0 : Int32)), (6, .int (0 : Int32)), (0, .ref (ad (20, 0, 0, 0))), (1, .int a1), (2, .int a2), (3, .int a3), (4, .int a4)]) hx hb dX2_leftOverBounds_86 hl (by decide) rfl (fun ls hl => ?_)
      refine lv_aload_n (pc := 88) hx hb dX2_leftOverBounds_88 rfl (lv_at hl 2 rfl) ?_
      refine lv_iload_n (pc := 89) hx hb dX2_leftOverBounds_89 rfl (lv_at hl 3 rfl) ?_
      refine lv_iload (pc := 90) hx hb dX2_leftOverBounds_90 (lv_at hl 1 rfl) ?_
      refine lv_iload (pc := 92) hx hb dX2_leftOverBounds_92 (lv_at hl 0 rfl) ?_
      refine r_cVV (pc := 94) (rest := []) (As := [.int a1, .int (0 : Int32), .int (0 : Int32)]) C hl.1 hP hS (k_X2_setBounds l G hC h0 hw) h0 rfl rfl mw_570 mw_572 mw_18 mw_62 mw_573 ⟨rfl, rfl⟩ hd_X2_setBounds rfl rfl ⟨Nat.le_of_ble_eq_true rfl, Nat.le_of_ble_eq_true rfl⟩ (Nat.le_of_ble_eq_true rfl) ⟨Nat.zero_le _, Nat.zero_le _⟩ dX2_leftOverBounds_94 (fun M94 H locs hw hP hS => ?_)
      exact r_vret (pc := 97) C hP hS hw dX2_leftOverBounds_97
set_option maxHeartbeats 4000000 in
set_option maxRecDepth 100000 in
theorem j_X2_leftOverBounds_0 {a1 : Int32} {a2 : Int32} {a3 : Int32} {a4 : Int32} (C : cx p s m args meth c cX2_leftOverBounds 8 none RX2 G) (hC : clo I) (h0 : I (20, 0, 0, 0)) {Q : Mem → Prop} : ∀ (M : Mem) (H : Heap) (locs : List Loc) (ls : Array Slot), w_X2_leftOverBounds a1 a2 a3 a4 Q M → wd G I ad M H → va_S (fA I ad) s.heap H locs → lv_has ls 8 [(0, .ref (ad (20, 0, 0, 0))), (1, .int a1), (2, .int a2), (3, .int a3), (4, .int a4)] → W p l e rm_X2_leftOverBounds s m args below meth c H locs 0 0 (MQ below (qV G I ad Q) args s 0 0 (fA I ad)) (F0 m 0 ls []) := by
  have hx := C.1
  have hb := C.2.1
  have hown := C.2.2.2.1
  have hts := C.2.2.2.2.1
  intro M H locs ls hw hP hS hl
  unfold w_X2_leftOverBounds at hw
  refine lv_iload (pc := 0) hx hb dX2_leftOverBounds_0 (lv_at hl 4 rfl) ?_
  refine lv_iconst (pc := 2) (v := (1 : Int32)) hx hb dX2_leftOverBounds_2 (by decide) ?_
  refine lv_icmp_ge (pc := 3) (tgt := 7) hx hb dX2_leftOverBounds_3 (by decide) (fun h => ?_) (fun h => ?_)
  · replace hw := if_t h hw
    refine lv_iload_n (pc := 7) hx hb dX2_leftOverBounds_7 rfl (lv_at hl 2 rfl) ?_
    refine lv_if_ge (pc := 8) (tgt := 19) hx hb dX2_leftOverBounds_8 (by decide) (fun h => ?_) (fun h => ?_)
    · replace hw := if_t h hw
      refine lv_iconst (pc := 19) (v := (0 : Int32)) hx hb dX2_leftOverBounds_19 (by decide) ?_
      refine lv_istore (pc := 20) (lv' := [(5, .int (0 : Int32)), (0, .ref (ad (20, 0, 0, 0))), (1, .int a1), (2, .int a2), (3, .int a3), (4, .int a4)]) hx hb dX2_leftOverBounds_20 hl (by decide) rfl (fun ls hl => ?_)
      refine lv_iload_n (pc := 22) hx hb dX2_leftOverBounds_22 rfl (lv_at hl 3 rfl) ?_
      refine lv_iload (pc := 23) hx hb dX2_leftOverBounds_23 (lv_at hl 5 rfl) ?_
      refine lv_idiv (pc := 25) hx hb dX2_leftOverBounds_25 hw.1 ?_
      replace hw := hw.2
      refine lv_iload_n (pc := 26) hx hb dX2_leftOverBounds_26 rfl (lv_at hl 4 rfl) ?_
      refine lv_iload (pc := 27) hx hb dX2_leftOverBounds_27 (lv_at hl 5 rfl) ?_
      refine lv_idiv (pc := 29) hx hb dX2_leftOverBounds_29 hw.1 ?_
      replace hw := hw.2
      refine lv_icmp_ne (pc := 30) (tgt := 52) hx hb dX2_leftOverBounds_30 (by decide) (fun h => ?_) (fun h => ?_)
      · replace hw := if_f h hw
        exact j_X2_leftOverBounds_52 C hC h0 M _ _ _ hw hP hS (lv_sub hl [1, 2, 3, 4, 5] rfl)
      · replace hw := if_t h hw
        refine lv_iload (pc := 33) hx hb dX2_leftOverBounds_33 (lv_at hl 0 rfl) ?_
        refine lv_if_ne (pc := 35) (tgt := 52) hx hb dX2_leftOverBounds_35 (by decide) (fun h => ?_) (fun h => ?_)
        · replace hw := if_f h hw
          exact j_X2_leftOverBounds_52 C hC h0 M _ _ _ hw hP hS (lv_sub hl [1, 2, 3, 4, 5] rfl)
        · replace hw := if_t h hw
          refine lv_aload_n (pc := 38) hx hb dX2_leftOverBounds_38 rfl (lv_at hl 1 rfl) ?_
          refine lv_iload_n (pc := 39) hx hb dX2_leftOverBounds_39 rfl (lv_at hl 2 rfl) ?_
          refine lv_iload_n (pc := 40) hx hb dX2_leftOverBounds_40 rfl (lv_at hl 3 rfl) ?_
          refine lv_iload (pc := 41) hx hb dX2_leftOverBounds_41 (lv_at hl 5 rfl) ?_
          refine lv_irem (pc := 43) hx hb dX2_leftOverBounds_43 hw.1 ?_
          replace hw := hw.2
          refine lv_iload_n (pc := 44) hx hb dX2_leftOverBounds_44 rfl (lv_at hl 4 rfl) ?_
          refine lv_iload (pc := 45) hx hb dX2_leftOverBounds_45 (lv_at hl 5 rfl) ?_
          refine lv_irem (pc := 47) hx hb dX2_leftOverBounds_47 hw.1 ?_
          replace hw := hw.2
          refine r_cVV (pc := 48) (rest := []) (As := [.int a1, .int (a2 - a2 / a4 * a4), .int (a3 - a3 / a4 * a4)]) C hl.1 hP hS (k_X2_setBounds l G hC h0 hw) h0 rfl rfl mw_570 mw_572 mw_18 mw_62 mw_573 ⟨rfl, rfl⟩ hd_X2_setBounds rfl rfl ⟨Nat.le_of_ble_eq_true rfl, Nat.le_of_ble_eq_true rfl⟩ (Nat.le_of_ble_eq_true rfl) ⟨Nat.zero_le _, Nat.zero_le _⟩ dX2_leftOverBounds_48 (fun M48 H locs hw hP hS => ?_)
          exact r_vret (pc := 51) C hP hS hw dX2_leftOverBounds_51
    · replace hw := if_f h hw
      refine lv_iload_n (pc := 11) hx hb dX2_leftOverBounds_11 rfl (lv_at hl 3 rfl) ?_
      refine lv_if_le (pc := 12) (tgt := 19) hx hb dX2_leftOverBounds_12 (by decide) (fun h => ?_) (fun h => ?_)
      · replace hw := if_t h hw
        refine lv_iconst (pc := 19) (v := (0 : Int32)) hx hb dX2_leftOverBounds_19 (by decide) ?_
        refine lv_istore (pc := 20) (lv' := [(5, .int (0 : Int32)), (0, .ref (ad (20, 0, 0, 0))), (1, .int a1), (2, .int a2), (3, .int a3), (4, .int a4)]) hx hb dX2_leftOverBounds_20 hl (by decide) rfl (fun ls hl => ?_)
        refine lv_iload_n (pc := 22) hx hb dX2_leftOverBounds_22 rfl (lv_at hl 3 rfl) ?_
        refine lv_iload (pc := 23) hx hb dX2_leftOverBounds_23 (lv_at hl 5 rfl) ?_
        refine lv_idiv (pc := 25) hx hb dX2_leftOverBounds_25 hw.1 ?_
        replace hw := hw.2
        refine lv_iload_n (pc := 26) hx hb dX2_leftOverBounds_26 rfl (lv_at hl 4 rfl) ?_
        refine lv_iload (pc := 27) hx hb dX2_leftOverBounds_27 (lv_at hl 5 rfl) ?_
        refine lv_idiv (pc := 29) hx hb dX2_leftOverBounds_29 hw.1 ?_
        replace hw := hw.2
        refine lv_icmp_ne (pc := 30) (tgt := 52) hx hb dX2_leftOverBounds_30 (by decide) (fun h => ?_) (fun h => ?_)
        · replace hw := if_f h hw
          exact j_X2_leftOverBounds_52 C hC h0 M _ _ _ hw hP hS (lv_sub hl [1, 2, 3, 4, 5] rfl)
        · replace hw := if_t h hw
          refine lv_iload (pc := 33) hx hb dX2_leftOverBounds_33 (lv_at hl 0 rfl) ?_
          refine lv_if_ne (pc := 35) (tgt := 52) hx hb dX2_leftOverBounds_35 (by decide) (fun h => ?_) (fun h => ?_)
          · replace hw := if_f h hw
            exact j_X2_leftOverBounds_52 C hC h0 M _ _ _ hw hP hS (lv_sub hl [1, 2, 3, 4, 5] rfl)
          · replace hw := if_t h hw
            refine lv_aload_n (pc := 38) hx hb dX2_leftOverBounds_38 rfl (lv_at hl 1 rfl) ?_
            refine lv_iload_n (pc := 39) hx hb dX2_leftOverBounds_39 rfl (lv_at hl 2 rfl) ?_
            refine lv_iload_n (pc := 40) hx hb dX2_leftOverBounds_40 rfl (lv_at hl 3 rfl) ?_
            refine lv_iload (pc := 41) hx hb dX2_leftOverBounds_41 (lv_at hl 5 rfl) ?_
            refine lv_irem (pc := 43) hx hb dX2_leftOverBounds_43 hw.1 ?_
            replace hw := hw.2
            refine lv_iload_n (pc := 44) hx hb dX2_leftOverBounds_44 rfl (lv_at hl 4 rfl) ?_
            refine lv_iload (pc := 45) hx hb dX2_leftOverBounds_45 (lv_at hl 5 rfl) ?_
            refine lv_irem (pc := 47) hx hb dX2_leftOverBounds_47 hw.1 ?_
            replace hw := hw.2
            refine r_cVV (pc := 48) (rest := []) (As := [.int a1, .int (a2 - a2 / a4 * a4), .int (a3 - a3 / a4 * a4)]) C hl.1 hP hS (k_X2_setBounds l G hC h0 hw) h0 rfl rfl mw_570 mw_572 mw_18 mw_62 mw_573 ⟨rfl, rfl⟩ hd_X2_setBounds rfl rfl ⟨Nat.le_of_ble_eq_true rfl, Nat.le_of_ble_eq_true rfl⟩ (Nat.le_of_ble_eq_true rfl) ⟨Nat.zero_le _, Nat.zero_le _⟩ dX2_leftOverBounds_48 (fun M48 H locs hw hP hS => ?_)
            exact r_vret (pc := 51) C hP hS hw dX2_leftOverBounds_51
      · replace hw := if_f h hw
        refine lv_iconst (pc := 15) (v := (1 : Int32)) hx hb dX2_leftOverBounds_15 (by decide) ?_
        refine lv_goto (pc := 16) (tgt := 20) hx hb dX2_leftOverBounds_16 (by decide) ?_
        refine lv_istore (pc := 20) (lv' := [(5, .int (1 : Int32)), (0, .ref (ad (20, 0, 0, 0))), (1, .int a1), (2, .int a2), (3, .int a3), (4, .int a4)]) hx hb dX2_leftOverBounds_20 hl (by decide) rfl (fun ls hl => ?_)
        refine lv_iload_n (pc := 22) hx hb dX2_leftOverBounds_22 rfl (lv_at hl 3 rfl) ?_
        refine lv_iload (pc := 23) hx hb dX2_leftOverBounds_23 (lv_at hl 5 rfl) ?_
        refine lv_idiv (pc := 25) hx hb dX2_leftOverBounds_25 hw.1 ?_
        replace hw := hw.2
        refine lv_iload_n (pc := 26) hx hb dX2_leftOverBounds_26 rfl (lv_at hl 4 rfl) ?_
        refine lv_iload (pc := 27) hx hb dX2_leftOverBounds_27 (lv_at hl 5 rfl) ?_
        refine lv_idiv (pc := 29) hx hb dX2_leftOverBounds_29 hw.1 ?_
        replace hw := hw.2
        refine lv_icmp_ne (pc := 30) (tgt := 52) hx hb dX2_leftOverBounds_30 (by decide) (fun h => ?_) (fun h => ?_)
        · replace hw := if_f h hw
          exact j_X2_leftOverBounds_52 C hC h0 M _ _ _ hw hP hS (lv_sub hl [1, 2, 3, 4, 5] rfl)
        · replace hw := if_t h hw
          refine lv_iload (pc := 33) hx hb dX2_leftOverBounds_33 (lv_at hl 0 rfl) ?_
          refine lv_if_ne (pc := 35) (tgt := 52) hx hb dX2_leftOverBounds_35 (by decide) (fun h => ?_) (fun h => ?_)
          · replace hw := if_f h hw
            exact j_X2_leftOverBounds_52 C hC h0 M _ _ _ hw hP hS (lv_sub hl [1, 2, 3, 4, 5] rfl)
          · replace hw := if_t h hw
            refine lv_aload_n (pc := 38) hx hb dX2_leftOverBounds_38 rfl (lv_at hl 1 rfl) ?_
            refine lv_iload_n (pc := 39) hx hb dX2_leftOverBounds_39 rfl (lv_at hl 2 rfl) ?_
            refine lv_iload_n (pc := 40) hx hb dX2_leftOverBounds_40 rfl (lv_at hl 3 rfl) ?_
            refine lv_iload (pc := 41) hx hb dX2_leftOverBounds_41 (lv_at hl 5 rfl) ?_
            refine lv_irem (pc := 43) hx hb dX2_leftOverBounds_43 hw.1 ?_
            replace hw := hw.2
            refine lv_iload_n (pc := 44) hx hb dX2_leftOverBounds_44 rfl (lv_at hl 4 rfl) ?_
            refine lv_iload (pc := 45) hx hb dX2_leftOverBounds_45 (lv_at hl 5 rfl) ?_
            refine lv_irem (pc := 47) hx hb dX2_leftOverBounds_47 hw.1 ?_
            replace hw := hw.2
            refine r_cVV (pc := 48) (rest := []) (As := [.int a1, .int (a2 - a2 / a4 * a4), .int (a3 - a3 / a4 * a4)]) C hl.1 hP hS (k_X2_setBounds l G hC h0 hw) h0 rfl rfl mw_570 mw_572 mw_18 mw_62 mw_573 ⟨rfl, rfl⟩ hd_X2_setBounds rfl rfl ⟨Nat.le_of_ble_eq_true rfl, Nat.le_of_ble_eq_true rfl⟩ (Nat.le_of_ble_eq_true rfl) ⟨Nat.zero_le _, Nat.zero_le _⟩ dX2_leftOverBounds_48 (fun M48 H locs hw hP hS => ?_)
            exact r_vret (pc := 51) C hP hS hw dX2_leftOverBounds_51
  · replace hw := if_f h hw
    exact r_vret (pc := 6) C hP hS hw dX2_leftOverBounds_6
end
theorem k_X2_leftOverBounds (l : Launch) (G : GG) {I : ix → Prop} {ad : ix → Nat} (hC : clo I) {a1 : Int32} {a2 : Int32} {a3 : Int32} {a4 : Int32} (h0 : I (20, 0, 0, 0)) {Q : Mem → Prop} {M : Mem} (hw : w_X2_leftOverBounds a1 a2 a3 a4 Q M) : Met l yX2_leftOverBounds (wW yX2_leftOverBounds cX2_leftOverBounds 8 none) rm_X2_leftOverBounds (va_Pc [.ref (ad (20, 0, 0, 0)), .int a1, .int a2, .int a3, .int a4] (fun U => wd G I ad M U.heap ∧ wK G U)) (qV G I ad Q) 0 0 (fA I ad) := met_of (by decide +kernel) (Nat.le_of_ble_eq_true rfl) (fun p e s m below meth c C hP hS ls hl => j_X2_leftOverBounds_0 C hC h0 _ _ _ _ hw hP hS hl)
