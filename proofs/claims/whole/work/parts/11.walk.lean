section
variable {p : Program} {l : Launch} {e : Env} {s : State} {m : MethodId} {args : Array Value} {below : List Frame} {meth : Method} {c : Code} 
variable  {G : GG} {I : ix → Prop} {ad : ix → Nat}
set_option maxHeartbeats 4000000 in
set_option maxRecDepth 100000 in
theorem j_X8_sumOf_0 {a0 : Int32} {a1 : Int32} {a2 : Int32} (C : cx p s m args meth c cX8_sumOf 5 (some .int) RX8 G) (hC : clo I) {Q : Int32 → Mem → Prop} : ∀ (M : Mem) (H : Heap) (locs : List Loc) (ls : Array Slot), w_X8_sumOf a0 a1 a2 Q M → wd G I ad M H → va_S (fA I ad) s.heap H locs → lv_has ls 5 [(0, .int a0), (1, .int a1), (2, .int a2)] → W p l e rm_X8_sumOf s m args below meth c H locs 0 0 (MQ below (qI G I ad Q) args s 0 0 (fA I ad)) (F0 m 0 ls []) := by
  have hx := C.1
  have hb := C.2.1
  have hown := C.2.2.2.1
  have hts := C.2.2.2.2.1
  intro M H locs ls hw hP hS hl
  unfold w_X8_sumOf at hw
  refine lv_iload_n (pc := 0) hx hb dX8_sumOf_0 rfl (lv_at hl 1 rfl) ?_
  refine lv_i2l (pc := 1) hx hb dX8_sumOf_1 rfl ?_
  refine lv_iload_n (pc := 2) hx hb dX8_sumOf_2 rfl (lv_at hl 2 rfl) ?_
  refine lv_i2l (pc := 3) hx hb dX8_sumOf_3 rfl ?_
  refine lv_lmul (pc := 4) hx hb dX8_sumOf_4 ?_
  refine lv_topl (fun x3_5 ex3_5 => ?_)
  replace hw := hw x3_5 ex3_5
  refine lv_lstore_n (pc := 5) (lv' := [(3, .long x3_5), (0, .int a0), (1, .int a1), (2, .int a2)]) hx hb dX8_sumOf_5 rfl hl (by decide) rfl (fun ls hl => ?_)
  refine lv_iload_n (pc := 6) hx hb dX8_sumOf_6 rfl (lv_at hl 1 rfl) ?_
  refine lv_bipush (pc := 7) (v := (43 : Int32)) hx hb dX8_sumOf_7 (by decide) ?_
  refine lv_icmp_ne (pc := 9) (tgt := 21) hx hb dX8_sumOf_9 (by decide) (fun h => ?_) (fun h => ?_)
  · replace hw := if_f h hw
    refine lv_iload_n (pc := 21) hx hb dX8_sumOf_21 rfl (lv_at hl 1 rfl) ?_
    refine lv_bipush (pc := 22) (v := (45 : Int32)) hx hb dX8_sumOf_22 (by decide) ?_
    refine lv_icmp_ne (pc := 24) (tgt := 33) hx hb dX8_sumOf_24 (by decide) (fun h => ?_) (fun h => ?_)
    · replace hw := if_f h hw
      refine lv_lload_n (pc := 33) hx hb dX8_sumOf_33 rfl (lv_at hl 0 rfl) ?_
      refine lv_ldc2 (pc := 34) (own := RX8) (v := (-1000000 : Int64)) hx hb hown (hts _ mw_515) dX8_sumOf_34 ?_
      refine W.lcmp (pc := 37) hx hb dX8_sumOf_37 ?_
      refine lv_if_ge (pc := 38) (tgt := 44) hx hb dX8_sumOf_38 (by decide) (fun h => ?_) (fun h => ?_)
      · replace hw := if_t h hw
        refine lv_lload_n (pc := 44) hx hb dX8_sumOf_44 rfl (lv_at hl 0 rfl) ?_
        refine lv_ldc2 (pc := 45) (own := RX8) (v := (1000000 : Int64)) hx hb hown (hts _ mw_517) dX8_sumOf_45 ?_
        refine W.lcmp (pc := 48) hx hb dX8_sumOf_48 ?_
        refine lv_if_le (pc := 49) (tgt := 57) hx hb dX8_sumOf_49 (by decide) (fun h => ?_) (fun h => ?_)
        · replace hw := if_t h hw
          refine lv_lload_n (pc := 57) hx hb dX8_sumOf_57 rfl (lv_at hl 0 rfl) ?_
          refine lv_l2i (pc := 58) hx hb dX8_sumOf_58 rfl ?_
          exact r_iret (pc := 59) C hP hS hw dX8_sumOf_59
        · replace hw := if_f h hw
          refine lv_ldc (pc := 52) (own := RX8) (v := (1000000 : Int32)) hx hb hown (hts _ mw_518) dX8_sumOf_52 ?_
          refine lv_goto (pc := 54) (tgt := 59) hx hb dX8_sumOf_54 (by decide) ?_
          exact r_iret (pc := 59) C hP hS hw dX8_sumOf_59
      · replace hw := if_f h hw
        refine lv_ldc (pc := 41) (own := RX8) (v := (-1000000 : Int32)) hx hb hown (hts _ mw_516) dX8_sumOf_41 ?_
        exact r_iret (pc := 43) C hP hS hw dX8_sumOf_43
    · replace hw := if_t h hw
      refine lv_iload_n (pc := 27) hx hb dX8_sumOf_27 rfl (lv_at hl 2 rfl) ?_
      refine lv_i2l (pc := 28) hx hb dX8_sumOf_28 rfl ?_
      refine lv_iload_n (pc := 29) hx hb dX8_sumOf_29 rfl (lv_at hl 3 rfl) ?_
      refine lv_i2l (pc := 30) hx hb dX8_sumOf_30 rfl ?_
      refine lv_lsub (pc := 31) hx hb dX8_sumOf_31 ?_
      refine lv_topl (fun x3_32 ex3_32 => ?_)
      replace hw := hw x3_32 ex3_32
      refine lv_lstore_n (pc := 32) (lv' := [(3, .long x3_32), (0, .int a0), (1, .int a1), (2, .int a2)]) hx hb dX8_sumOf_32 rfl hl (by decide) rfl (fun ls hl => ?_)
      refine lv_lload_n (pc := 33) hx hb dX8_sumOf_33 rfl (lv_at hl 0 rfl) ?_
      refine lv_ldc2 (pc := 34) (own := RX8) (v := (-1000000 : Int64)) hx hb hown (hts _ mw_515) dX8_sumOf_34 ?_
      refine W.lcmp (pc := 37) hx hb dX8_sumOf_37 ?_
      refine lv_if_ge (pc := 38) (tgt := 44) hx hb dX8_sumOf_38 (by decide) (fun h => ?_) (fun h => ?_)
      · replace hw := if_t h hw
        refine lv_lload_n (pc := 44) hx hb dX8_sumOf_44 rfl (lv_at hl 0 rfl) ?_
        refine lv_ldc2 (pc := 45) (own := RX8) (v := (1000000 : Int64)) hx hb hown (hts _ mw_517) dX8_sumOf_45 ?_
        refine W.lcmp (pc := 48) hx hb dX8_sumOf_48 ?_
        refine lv_if_le (pc := 49) (tgt := 57) hx hb dX8_sumOf_49 (by decide) (fun h => ?_) (fun h => ?_)
        · replace hw := if_t h hw
          refine lv_lload_n (pc := 57) hx hb dX8_sumOf_57 rfl (lv_at hl 0 rfl) ?_
          refine lv_l2i (pc := 58) hx hb dX8_sumOf_58 rfl ?_
          exact r_iret (pc := 59) C hP hS hw dX8_sumOf_59
        · replace hw := if_f h hw
          refine lv_ldc (pc := 52) (own := RX8) (v := (1000000 : Int32)) hx hb hown (hts _ mw_518) dX8_sumOf_52 ?_
          refine lv_goto (pc := 54) (tgt := 59) hx hb dX8_sumOf_54 (by decide) ?_
          exact r_iret (pc := 59) C hP hS hw dX8_sumOf_59
      · replace hw := if_f h hw
        refine lv_ldc (pc := 41) (own := RX8) (v := (-1000000 : Int32)) hx hb hown (hts _ mw_516) dX8_sumOf_41 ?_
        exact r_iret (pc := 43) C hP hS hw dX8_sumOf_43
  · replace hw := if_t h hw
    refine lv_iload_n (pc := 12) hx hb dX8_sumOf_12 rfl (lv_at hl 2 rfl) ?_
    refine lv_i2l (pc := 13) hx hb dX8_sumOf_13 rfl ?_
    refine lv_iload_n (pc := 14) hx hb dX8_sumOf_14 rfl (lv_at hl 3 rfl) ?_
    refine lv_i2l (pc := 15) hx hb dX8_sumOf_15 rfl ?_
    refine lv_ladd (pc := 16) hx hb dX8_sumOf_16 ?_
    refine lv_topl (fun x3_17 ex3_17 => ?_)
    replace hw := hw x3_17 ex3_17
    refine lv_lstore_n (pc := 17) (lv' := [(3, .long x3_17), (0, .int a0), (1, .int a1), (2, .int a2)]) hx hb dX8_sumOf_17 rfl hl (by decide) rfl (fun ls hl => ?_)
    refine lv_goto (pc := 18) (tgt := 33) hx hb dX8_sumOf_18 (by decide) ?_
    refine lv_lload_n (pc := 33) hx hb dX8_sumOf_33 rfl (lv_at hl 0 rfl) ?_
    refine lv_ldc2 (pc := 34) (own := RX8) (v := (-1000000 : Int64)) hx hb hown (hts _ mw_515) dX8_sumOf_34 ?_
    refine W.lcmp (pc := 37) hx hb dX8_sumOf_37 ?_
    refine lv_if_ge (pc := 38) (tgt := 44) hx hb dX8_sumOf_38 (by decide) (fun h => ?_) (fun h => ?_)
    · replace hw := if_t h hw
      refine lv_lload_n (pc := 44) hx hb dX8_sumOf_44 rfl (lv_at hl 0 rfl) ?_
      refine lv_ldc2 (pc := 45) (own := RX8) (v := (1000000 : Int64)) hx hb hown (hts _ mw_517) dX8_sumOf_45 ?_
      refine W.lcmp (pc := 48) hx hb dX8_sumOf_48 ?_
      refine lv_if_le (pc := 49) (tgt := 57) hx hb dX8_sumOf_49 (by decide) (fun h => ?_) (fun h => ?_)
      · replace hw := if_t h hw
        refine lv_lload_n (pc := 57) hx hb dX8_sumOf_57 rfl (lv_at hl 0 rfl) ?_
        refine lv_l2i (pc := 58) hx hb dX8_sumOf_58 rfl ?_
        exact r_iret (pc := 59) C hP hS hw dX8_sumOf_59
      · replace hw := if_f h hw
        refine lv_ldc (pc := 52) (own := RX8) (v := (1000000 : Int32)) hx hb hown (hts _ mw_518) dX8_sumOf_52 ?_
        refine lv_goto (pc := 54) (tgt := 59) hx hb dX8_sumOf_54 (by decide) ?_
        exact r_iret (pc := 59) C hP hS hw dX8_sumOf_59
    · replace hw := if_f h hw
      refine lv_ldc (pc := 41) (own := RX8) (v := (-1000000 : Int32)) hx hb hown (hts _ mw_516) dX8_sumOf_41 ?_
      exact r_iret (pc := 43) C hP hS hw dX8_sumOf_43
end
theorem k_X8_sumOf (l : Launch) (G : GG) {I : ix → Prop} {ad : ix → Nat} (hC : clo I) {a0 : Int32} {a1 : Int32} {a2 : Int32} {Q : Int32 → Mem → Prop} {M : Mem} (hw : w_X8_sumOf a0 a1 a2 Q M) : Met l yX8_sumOf (wW yX8_sumOf cX8_sumOf 5 (some .int)) rm_X8_sumOf (va_Pc [.int a0, .int a1, .int a2] (fun U => wd G I ad M U.heap ∧ wK G U)) (qI G I ad Q) 0 0 (fA I ad) := met_of (by decide +kernel) (Nat.le_of_ble_eq_true rfl) (fun p e s m below meth c C hP hS ls hl => j_X8_sumOf_0 C hC  _ _ _ _ hw hP hS hl)
section
variable {p : Program} {l : Launch} {e : Env} {s : State} {m : MethodId} {args : Array Value} {below : List Frame} {meth : Method} {c : Code} 
variable  {G : GG} {I : ix → Prop} {ad : ix → Nat}
set_option maxHeartbeats 4000000 in
set_option maxRecDepth 100000 in
theorem j_X2_productBounds_0 {a1 : Int32} {a2 : Int32} (C : cx p s m args meth c cX2_productBounds 11 none RX2 G) (hC : clo I) (h0 : I (20, 0, 0, 0)) {Q : Mem → Prop} : ∀ (M : Mem) (H : Heap) (locs : List Loc) (ls : Array Slot), w_X2_productBounds a1 a2 Q M → wd G I ad M H → va_S (fA I ad) s.heap H locs → lv_has ls 11 [(0, .ref (ad (20, 0, 0, 0))), (1, .int a1), (2, .int a2)] → W p l e rm_X2_productBounds s m args below meth c H locs 0 0 (MQ below (qV G I ad Q) args s 0 0 (fA I ad)) (F0 m 0 ls []) := by
  have hx := C.1
  have hb := C.2.1
  have hown := C.2.2.2.1
  have hts := C.2.2.2.2.1
  intro M H locs ls hw hP hS hl
  unfold w_X2_productBounds at hw
  refine lv_aload_n (pc := 0) hx hb dX2_productBounds_0 rfl (lv_at hl 0 rfl) ?_
  refine gf_237 (pc := 1) C hP h0 dX2_productBounds_1 ?_
  refine lv_iload_n (pc := 4) hx hb dX2_productBounds_4 rfl (lv_at hl 1 rfl) ?_
  refine lv_iconst (pc := 5) (v := (1 : Int32)) hx hb dX2_productBounds_5 (by decide) ?_
  refine lv_iadd (pc := 6) hx hb dX2_productBounds_6 ?_
  refine r_cNI (pc := 7) (rest := []) (As := [.ref (ad (22, 0, 0, 0)), .int (a1 + (1 : Int32))]) C hl.1 hP hS (k_X8_at l G hC (cl_20_1 hC h0) (fun _ _ _ _ => rfl) hw) (List.mem_of_getElem? (i := 11) rfl) mw_453 mw_56 mw_454 ⟨rfl, rfl⟩ hd_X8_at rfl rfl ⟨Nat.le_of_ble_eq_true rfl, Nat.le_of_ble_eq_true rfl⟩ (Nat.le_of_ble_eq_true rfl) ⟨Nat.zero_le _, Nat.zero_le _⟩ dX2_productBounds_7 (fun r7 M7 H locs hw hP hS => ?_)
  refine lv_istore_n (pc := 10) (lv' := [(3, .int r7), (0, .ref (ad (20, 0, 0, 0))), (1, .int a1), (2, .int a2)]) hx hb dX2_productBounds_10 rfl hl (by decide) rfl (fun ls hl => ?_)
  refine lv_aload_n (pc := 11) hx hb dX2_productBounds_11 rfl (lv_at hl 1 rfl) ?_
  refine gf_239 (pc := 12) C hP h0 dX2_productBounds_12 ?_
  refine lv_iload_n (pc := 15) hx hb dX2_productBounds_15 rfl (lv_at hl 2 rfl) ?_
  refine lv_iconst (pc := 16) (v := (1 : Int32)) hx hb dX2_productBounds_16 (by decide) ?_
  refine lv_iadd (pc := 17) hx hb dX2_productBounds_17 ?_
  refine r_cNI (pc := 18) (rest := []) (As := [.ref (ad (23, 0, 0, 0)), .int (a1 + (1 : Int32))]) C hl.1 hP hS (k_X8_at l G hC (cl_20_2 hC h0) (fun _ _ _ _ => rfl) hw) (List.mem_of_getElem? (i := 11) rfl) mw_453 mw_56 mw_454 ⟨rfl, rfl⟩ hd_X8_at rfl rfl ⟨Nat.le_of_ble_eq_true rfl, Nat.le_of_ble_eq_true rfl⟩ (Nat.le_of_ble_eq_true rfl) ⟨Nat.zero_le _, Nat.zero_le _⟩ dX2_productBounds_18 (fun r18 M18 H locs hw hP hS => ?_)
  refine lv_istore (pc := 21) (lv' := [(4, .int r18), (3, .int r7), (0, .ref (ad (20, 0, 0, 0))), (1, .int a1), (2, .int a2)]) hx hb dX2_productBounds_21 hl (by decide) rfl (fun ls hl => ?_)
  refine lv_bipush (pc := 23) (v := (42 : Int32)) hx hb dX2_productBounds_23 (by decide) ?_
  refine lv_iload_n (pc := 25) hx hb dX2_productBounds_25 rfl (lv_at hl 1 rfl) ?_
  refine lv_aload_n (pc := 26) hx hb dX2_productBounds_26 rfl (lv_at hl 2 rfl) ?_
  refine gf_237 (pc := 27) C hP h0 dX2_productBounds_27 ?_
  refine lv_iload_n (pc := 30) hx hb dX2_productBounds_30 rfl (lv_at hl 4 rfl) ?_
  refine r_cNI (pc := 31) (rest := [.int r7, .int (42 : Int32)]) (As := [.ref (ad (22, 0, 0, 0)), .int a2]) C hl.1 hP hS (k_X8_at l G hC (cl_20_1 hC h0) (fun _ _ _ _ => rfl) hw) (List.mem_of_getElem? (i := 11) rfl) mw_453 mw_56 mw_454 ⟨rfl, rfl⟩ hd_X8_at rfl rfl ⟨Nat.le_of_ble_eq_true rfl, Nat.le_of_ble_eq_true rfl⟩ (Nat.le_of_ble_eq_true rfl) ⟨Nat.zero_le _, Nat.zero_le _⟩ dX2_productBounds_31 (fun r31 M31 H locs hw hP hS => ?_)
  refine r_cNI (pc := 34) (rest := []) (As := [.int (42 : Int32), .int r7, .int r31]) C hl.1 hP hS (k_X8_sumOf l G hC  hw) (List.mem_of_getElem? (i := 20) rfl) mw_513 mw_56 mw_514 ⟨rfl, rfl⟩ hd_X8_sumOf rfl rfl ⟨Nat.le_of_ble_eq_true rfl, Nat.le_of_ble_eq_true rfl⟩ (Nat.le_of_ble_eq_true rfl) ⟨Nat.zero_le _, Nat.zero_le _⟩ dX2_productBounds_34 (fun r34 M34 H locs hw hP hS => ?_)
  refine lv_istore (pc := 37) (lv' := [(5, .int r34), (4, .int r18), (3, .int r7), (0, .ref (ad (20, 0, 0, 0))), (1, .int a1), (2, .int a2)]) hx hb dX2_productBounds_37 hl (by decide) rfl (fun ls hl => ?_)
  refine lv_bipush (pc := 39) (v := (42 : Int32)) hx hb dX2_productBounds_39 (by decide) ?_
  refine lv_iload_n (pc := 41) hx hb dX2_productBounds_41 rfl (lv_at hl 2 rfl) ?_
  refine lv_aload_n (pc := 42) hx hb dX2_productBounds_42 rfl (lv_at hl 3 rfl) ?_
  refine gf_239 (pc := 43) C hP h0 dX2_productBounds_43 ?_
  refine lv_iload_n (pc := 46) hx hb dX2_productBounds_46 rfl (lv_at hl 5 rfl) ?_
  refine r_cNI (pc := 47) (rest := [.int r7, .int (42 : Int32)]) (As := [.ref (ad (23, 0, 0, 0)), .int a2]) C hl.1 hP hS (k_X8_at l G hC (cl_20_2 hC h0) (fun _ _ _ _ => rfl) hw) (List.mem_of_getElem? (i := 11) rfl) mw_453 mw_56 mw_454 ⟨rfl, rfl⟩ hd_X8_at rfl rfl ⟨Nat.le_of_ble_eq_true rfl, Nat.le_of_ble_eq_true rfl⟩ (Nat.le_of_ble_eq_true rfl) ⟨Nat.zero_le _, Nat.zero_le _⟩ dX2_productBounds_47 (fun r47 M47 H locs hw hP hS => ?_)
  refine r_cNI (pc := 50) (rest := []) (As := [.int (42 : Int32), .int r7, .int r47]) C hl.1 hP hS (k_X8_sumOf l G hC  hw) (List.mem_of_getElem? (i := 20) rfl) mw_513 mw_56 mw_514 ⟨rfl, rfl⟩ hd_X8_sumOf rfl rfl ⟨Nat.le_of_ble_eq_true rfl, Nat.le_of_ble_eq_true rfl⟩ (Nat.le_of_ble_eq_true rfl) ⟨Nat.zero_le _, Nat.zero_le _⟩ dX2_productBounds_50 (fun r50 M50 H locs hw hP hS => ?_)
  refine lv_istore (pc := 53) (lv' := [(6, .int r50), (5, .int r34), (4, .int r18), (3, .int r7), (0, .ref (ad (20, 0, 0, 0))), (1, .int a1), (2, .int a2)]) hx hb dX2_productBounds_53 hl (by decide) rfl (fun ls hl => ?_)
  refine lv_bipush (pc := 55) (v := (42 : Int32)) hx hb dX2_productBounds_55 (by decide) ?_
  refine lv_iload (pc := 57) hx hb dX2_productBounds_57 (lv_at hl 2 rfl) ?_
  refine lv_aload_n (pc := 59) hx hb dX2_productBounds_59 rfl (lv_at hl 4 rfl) ?_
  refine gf_237 (pc := 60) C hP h0 dX2_productBounds_60 ?_
  refine lv_iload_n (pc := 63) hx hb dX2_productBounds_63 rfl (lv_at hl 6 rfl) ?_
  refine r_cNI (pc := 64) (rest := [.int r18, .int (42 : Int32)]) (As := [.ref (ad (22, 0, 0, 0)), .int a2]) C hl.1 hP hS (k_X8_at l G hC (cl_20_1 hC h0) (fun _ _ _ _ => rfl) hw) (List.mem_of_getElem? (i := 11) rfl) mw_453 mw_56 mw_454 ⟨rfl, rfl⟩ hd_X8_at rfl rfl ⟨Nat.le_of_ble_eq_true rfl, Nat.le_of_ble_eq_true rfl⟩ (Nat.le_of_ble_eq_true rfl) ⟨Nat.zero_le _, Nat.zero_le _⟩ dX2_productBounds_64 (fun r64 M64 H locs hw hP hS => ?_)
  refine r_cNI (pc := 67) (rest := []) (As := [.int (42 : Int32), .int r18, .int r64]) C hl.1 hP hS (k_X8_sumOf l G hC  hw) (List.mem_of_getElem? (i := 20) rfl) mw_513 mw_56 mw_514 ⟨rfl, rfl⟩ hd_X8_sumOf rfl rfl ⟨Nat.le_of_ble_eq_true rfl, Nat.le_of_ble_eq_true rfl⟩ (Nat.le_of_ble_eq_true rfl) ⟨Nat.zero_le _, Nat.zero_le _⟩ dX2_productBounds_67 (fun r67 M67 H locs hw hP hS => ?_)
  refine lv_istore (pc := 70) (lv' := [(7, .int r67), (6, .int r50), (5, .int r34), (4, .int r18), (3, .int r7), (0, .ref (ad (20, 0, 0, 0))), (1, .int a1), (2, .int a2)]) hx hb dX2_productBounds_70 hl (by decide) rfl (fun ls hl => ?_)
  refine lv_bipush (pc := 72) (v := (42 : Int32)) hx hb dX2_productBounds_72 (by decide) ?_
  refine lv_iload (pc := 74) hx hb dX2_productBounds_74 (lv_at hl 3 rfl) ?_
  refine lv_aload_n (pc := 76) hx hb dX2_productBounds_76 rfl (lv_at hl 5 rfl) ?_
  refine gf_239 (pc := 77) C hP h0 dX2_productBounds_77 ?_
  refine lv_iload_n (pc := 80) hx hb dX2_productBounds_80 rfl (lv_at hl 7 rfl) ?_
  refine r_cNI (pc := 81) (rest := [.int r18, .int (42 : Int32)]) (As := [.ref (ad (23, 0, 0, 0)), .int a2]) C hl.1 hP hS (k_X8_at l G hC (cl_20_2 hC h0) (fun _ _ _ _ => rfl) hw) (List.mem_of_getElem? (i := 11) rfl) mw_453 mw_56 mw_454 ⟨rfl, rfl⟩ hd_X8_at rfl rfl ⟨Nat.le_of_ble_eq_true rfl, Nat.le_of_ble_eq_true rfl⟩ (Nat.le_of_ble_eq_true rfl) ⟨Nat.zero_le _, Nat.zero_le _⟩ dX2_productBounds_81 (fun r81 M81 H locs hw hP hS => ?_)
  refine r_cNI (pc := 84) (rest := []) (As := [.int (42 : Int32), .int r18, .int r81]) C hl.1 hP hS (k_X8_sumOf l G hC  hw) (List.mem_of_getElem? (i := 20) rfl) mw_513 mw_56 mw_514 ⟨rfl, rfl⟩ hd_X8_sumOf rfl rfl ⟨Nat.le_of_ble_eq_true rfl, Nat.le_of_ble_eq_true rfl⟩ (Nat.le_of_ble_eq_true rfl) ⟨Nat.zero_le _, Nat.zero_le _⟩ dX2_productBounds_84 (fun r84 M84 H locs hw hP hS => ?_)
  refine lv_istore (pc := 87) (lv' := [(8, .int r84), (7, .int r67), (6, .int r50), (5, .int r34), (4, .int r18), (3, .int r7), (0, .ref (ad (20, 0, 0, 0))), (1, .int a1), (2, .int a2)]) hx hb dX2_productBounds_87 hl (by decide) rfl (fun ls hl => ?_)
  refine lv_iload (pc := 89) hx hb dX2_productBounds_89 (lv_at hl 3 rfl) ?_
  refine lv_iload (pc := 91) hx hb dX2_productBounds_91 (lv_at hl 2 rfl) ?_
  refine r_min (pc := 93) (rest := []) C hl.1 mw_583 mw_341 mw_66 mw_342 (Nat.le_of_ble_eq_true rfl) (Nat.le_of_ble_eq_true rfl) (Nat.zero_le _) (Nat.zero_le _) dX2_productBounds_93 ?_
  refine lv_iload (pc := 96) hx hb dX2_productBounds_96 (lv_at hl 1 rfl) ?_
  refine lv_iload (pc := 98) hx hb dX2_productBounds_98 (lv_at hl 0 rfl) ?_
  refine r_min (pc := 100) (rest := [.int (if r50 < r34 then r50 else r34)]) C hl.1 mw_583 mw_341 mw_66 mw_342 (Nat.le_of_ble_eq_true rfl) (Nat.le_of_ble_eq_true rfl) (Nat.zero_le _) (Nat.zero_le _) dX2_productBounds_100 ?_
  refine r_min (pc := 103) (rest := []) C hl.1 mw_583 mw_341 mw_66 mw_342 (Nat.le_of_ble_eq_true rfl) (Nat.le_of_ble_eq_true rfl) (Nat.zero_le _) (Nat.zero_le _) dX2_productBounds_103 ?_
  refine lv_topi (fun x9_106 ex9_106 => ?_)
  replace hw := hw x9_106 ex9_106
  refine lv_istore (pc := 106) (lv' := [(9, .int x9_106), (8, .int r84), (7, .int r67), (6, .int r50), (5, .int r34), (4, .int r18), (3, .int r7), (0, .ref (ad (20, 0, 0, 0))), (1, .int a1), (2, .int a2)]) hx hb dX2_productBounds_106 hl (by decide) rfl (fun ls hl => ?_)
  refine lv_iload (pc := 108) hx hb dX2_productBounds_108 (lv_at hl 4 rfl) ?_
  refine lv_iload (pc := 110) hx hb dX2_productBounds_110 (lv_at hl 3 rfl) ?_
  refine r_max (pc := 112) (rest := []) C hl.1 mw_582 mw_344 mw_66 mw_345 (Nat.le_of_ble_eq_true rfl) (Nat.le_of_ble_eq_true rfl) (Nat.zero_le _) (Nat.zero_le _) dX2_productBounds_112 ?_
  refine lv_iload (pc := 115) hx hb dX2_productBounds_115 (lv_at hl 2 rfl) ?_
  refine lv_iload (pc := 117) hx hb dX2_productBounds_117 (lv_at hl 1 rfl) ?_
  refine r_max (pc := 119) (rest := [.int (if r34 < r50 then r50 else r34)]) C hl.1 mw_582 mw_344 mw_66 mw_345 (Nat.le_of_ble_eq_true rfl) (Nat.le_of_ble_eq_true rfl) (Nat.zero_le _) (Nat.zero_le _) dX2_productBounds_119 ?_
  refine r_max (pc := 122) (rest := []) C hl.1 mw_582 mw_344 mw_66 mw_345 (Nat.le_of_ble_eq_true rfl) (Nat.le_of_ble_eq_true rfl) (Nat.zero_le _) (Nat.zero_le _) dX2_productBounds_122 ?_
  refine lv_topi (fun x10_125 ex10_125 => ?_)
  replace hw := hw x10_125 ex10_125
  refine lv_istore (pc := 125) (lv' := [(10, .int x10_125), (9, .int x9_106), (8, .int r84), (7, .int r67), (6, .int r50), (5, .int r34), (4, .int r18), (3, .int r7), (0, .ref (ad (20, 0, 0, 0))), (1, .int a1), (2, .int a2)]) hx hb dX2_productBounds_125 hl (by decide) rfl (fun ls hl => ?_)
  refine lv_aload_n (pc := 127) hx hb dX2_productBounds_127 rfl (lv_at hl 8 rfl) ?_
  refine lv_iload_n (pc := 128) hx hb dX2_productBounds_128 rfl (lv_at hl 9 rfl) ?_
  refine lv_iload (pc := 129) hx hb dX2_productBounds_129 (lv_at hl 1 rfl) ?_
  refine lv_iload (pc := 131) hx hb dX2_productBounds_131 (lv_at hl 0 rfl) ?_
  refine r_cVV (pc := 133) (rest := []) (As := [.int a1, .int x9_106, .int x10_125]) C hl.1 hP hS (k_X2_setBounds l G hC h0 hw) h0 rfl rfl mw_570 mw_572 mw_18 mw_62 mw_573 ⟨rfl, rfl⟩ hd_X2_setBounds rfl rfl ⟨Nat.le_of_ble_eq_true rfl, Nat.le_of_ble_eq_true rfl⟩ (Nat.le_of_ble_eq_true rfl) ⟨Nat.zero_le _, Nat.zero_le _⟩ dX2_productBounds_133 (fun M133 H locs hw hP hS => ?_)
  exact r_vret (pc := 136) C hP hS hw dX2_productBounds_136
end
theorem k_X2_productBounds (l : Launch) (G : GG) {I : ix → Prop} {ad : ix → Nat} (hC : clo I) {a1 : Int32} {a2 : Int32} (h0 : I (20, 0, 0, 0)) {Q : Mem → Prop} {M : Mem} (hw : w_X2_productBounds a1 a2 Q M) : Met l yX2_productBounds (wW yX2_productBounds cX2_productBounds 11 none) rm_X2_productBounds (va_Pc [.ref (ad (20, 0, 0, 0)), .int a1, .int a2] (fun U => wd G I ad M U.heap ∧ wK G U)) (qV G I ad Q) 0 0 (fA I ad) := met_of (by decide +kernel) (Nat.le_of_ble_eq_true rfl) (fun p e s m below meth c C hP hS ls hl => j_X2_productBounds_0 C hC h0 _ _ _ _ hw hP hS hl)
section
variable {p : Program} {l : Launch} {e : Env} {s : State} {m : MethodId} {args : Array Value} {below : List Frame} {meth : Method} {c : Code} 
variable  {G : GG} {I : ix → Prop} {ad : ix → Nat}
set_option maxHeartbeats 4000000 in
set_option maxRecDepth 100000 in
theorem j_X2_sumBounds_0 {a1 : Int32} {a2 : Int32} {a3 : Int32} (C : cx p s m args meth c cX2_sumBounds 6 none RX2 G) (hC : clo I) (h0 : I (20, 0, 0, 0)) {Q : Mem → Prop} : ∀ (M : Mem) (H : Heap) (locs : List Loc) (ls : Array Slot), w_X2_sumBounds a1 a2 a3 Q M → wd G I ad M H → va_S (fA I ad) s.heap H locs → lv_has ls 6 [(0, .ref (ad (20, 0, 0, 0))), (1, .int a1), (2, .int a2), (3, .int a3)] → W p l e rm_X2_sumBounds s m args below meth c H locs 0 0 (MQ below (qV G I ad Q) args s 0 0 (fA I ad)) (F0 m 0 ls []) := by
  have hx := C.1
  have hb := C.2.1
  have hown := C.2.2.2.1
  have hts := C.2.2.2.2.1
  intro M H locs ls hw hP hS hl
  unfold w_X2_sumBounds at hw
  refine lv_iload_n (pc := 0) hx hb dX2_sumBounds_0 rfl (lv_at hl 2 rfl) ?_
  refine lv_bipush (pc := 1) (v := (43 : Int32)) hx hb dX2_sumBounds_1 (by decide) ?_
  refine lv_icmp_ne (pc := 3) (tgt := 13) hx hb dX2_sumBounds_3 (by decide) (fun h => ?_) (fun h => ?_)
  · replace hw := if_f h hw
    refine lv_aload_n (pc := 13) hx hb dX2_sumBounds_13 rfl (lv_at hl 0 rfl) ?_
    refine gf_239 (pc := 14) C hP h0 dX2_sumBounds_14 ?_
    refine lv_iload_n (pc := 17) hx hb dX2_sumBounds_17 rfl (lv_at hl 3 rfl) ?_
    refine r_cNI (pc := 18) (rest := []) (As := [.ref (ad (23, 0, 0, 0)), .int a3]) C hl.1 hP hS (k_X8_at l G hC (cl_20_2 hC h0) (fun _ _ _ _ => rfl) hw) (List.mem_of_getElem? (i := 11) rfl) mw_453 mw_56 mw_454 ⟨rfl, rfl⟩ hd_X8_at rfl rfl ⟨Nat.le_of_ble_eq_true rfl, Nat.le_of_ble_eq_true rfl⟩ (Nat.le_of_ble_eq_true rfl) ⟨Nat.zero_le _, Nat.zero_le _⟩ dX2_sumBounds_18 (fun r18 M18 H locs hw hP hS => ?_)
    refine lv_istore (pc := 21) (lv' := [(4, .int r18), (0, .ref (ad (20, 0, 0, 0))), (1, .int a1), (2, .int a2), (3, .int a3)]) hx hb dX2_sumBounds_21 hl (by decide) rfl (fun ls hl => ?_)
    refine lv_iload_n (pc := 23) hx hb dX2_sumBounds_23 rfl (lv_at hl 3 rfl) ?_
    refine lv_bipush (pc := 24) (v := (43 : Int32)) hx hb dX2_sumBounds_24 (by decide) ?_
    refine lv_icmp_ne (pc := 26) (tgt := 36) hx hb dX2_sumBounds_26 (by decide) (fun h => ?_) (fun h => ?_)
    · replace hw := if_f h hw
      refine lv_aload_n (pc := 36) hx hb dX2_sumBounds_36 rfl (lv_at hl 1 rfl) ?_
      refine gf_237 (pc := 37) C hP h0 dX2_sumBounds_37 ?_
      refine lv_iload_n (pc := 40) hx hb dX2_sumBounds_40 rfl (lv_at hl 4 rfl) ?_
      refine r_cNI (pc := 41) (rest := []) (As := [.ref (ad (22, 0, 0, 0)), .int a3]) C hl.1 hP hS (k_X8_at l G hC (cl_20_1 hC h0) (fun _ _ _ _ => rfl) hw) (List.mem_of_getElem? (i := 11) rfl) mw_453 mw_56 mw_454 ⟨rfl, rfl⟩ hd_X8_at rfl rfl ⟨Nat.le_of_ble_eq_true rfl, Nat.le_of_ble_eq_true rfl⟩ (Nat.le_of_ble_eq_true rfl) ⟨Nat.zero_le _, Nat.zero_le _⟩ dX2_sumBounds_41 (fun r41 M41 H locs hw hP hS => ?_)
      refine lv_istore (pc := 44) (lv' := [(5, .int r41), (4, .int r18), (0, .ref (ad (20, 0, 0, 0))), (1, .int a1), (2, .int a2), (3, .int a3)]) hx hb dX2_sumBounds_44 hl (by decide) rfl (fun ls hl => ?_)
      refine lv_aload_n (pc := 46) hx hb dX2_sumBounds_46 rfl (lv_at hl 2 rfl) ?_
      refine lv_iload_n (pc := 47) hx hb dX2_sumBounds_47 rfl (lv_at hl 3 rfl) ?_
      refine lv_iload_n (pc := 48) hx hb dX2_sumBounds_48 rfl (lv_at hl 4 rfl) ?_
      refine lv_aload_n (pc := 49) hx hb dX2_sumBounds_49 rfl (lv_at hl 2 rfl) ?_
      refine gf_237 (pc := 50) C hP h0 dX2_sumBounds_50 ?_
      refine lv_iload_n (pc := 53) hx hb dX2_sumBounds_53 rfl (lv_at hl 3 rfl) ?_
      refine lv_iconst (pc := 54) (v := (1 : Int32)) hx hb dX2_sumBounds_54 (by decide) ?_
      refine lv_iadd (pc := 55) hx hb dX2_sumBounds_55 ?_
      refine r_cNI (pc := 56) (rest := [.int a2, .int a1, .ref (ad (20, 0, 0, 0))]) (As := [.ref (ad (22, 0, 0, 0)), .int (a1 + (1 : Int32))]) C hl.1 hP hS (k_X8_at l G hC (cl_20_1 hC h0) (fun _ _ _ _ => rfl) hw) (List.mem_of_getElem? (i := 11) rfl) mw_453 mw_56 mw_454 ⟨rfl, rfl⟩ hd_X8_at rfl rfl ⟨Nat.le_of_ble_eq_true rfl, Nat.le_of_ble_eq_true rfl⟩ (Nat.le_of_ble_eq_true rfl) ⟨Nat.zero_le _, Nat.zero_le _⟩ dX2_sumBounds_56 (fun r56 M56 H locs hw hP hS => ?_)
      refine lv_iload (pc := 59) hx hb dX2_sumBounds_59 (lv_at hl 1 rfl) ?_
      refine r_cNI (pc := 61) (rest := [.int a1, .ref (ad (20, 0, 0, 0))]) (As := [.int a2, .int r56, .int r18]) C hl.1 hP hS (k_X8_sumOf l G hC  hw) (List.mem_of_getElem? (i := 20) rfl) mw_513 mw_56 mw_514 ⟨rfl, rfl⟩ hd_X8_sumOf rfl rfl ⟨Nat.le_of_ble_eq_true rfl, Nat.le_of_ble_eq_true rfl⟩ (Nat.le_of_ble_eq_true rfl) ⟨Nat.zero_le _, Nat.zero_le _⟩ dX2_sumBounds_61 (fun r61 M61 H locs hw hP hS => ?_)
      refine lv_iload_n (pc := 64) hx hb dX2_sumBounds_64 rfl (lv_at hl 4 rfl) ?_
      refine lv_aload_n (pc := 65) hx hb dX2_sumBounds_65 rfl (lv_at hl 2 rfl) ?_
      refine gf_239 (pc := 66) C hP h0 dX2_sumBounds_66 ?_
      refine lv_iload_n (pc := 69) hx hb dX2_sumBounds_69 rfl (lv_at hl 3 rfl) ?_
      refine lv_iconst (pc := 70) (v := (1 : Int32)) hx hb dX2_sumBounds_70 (by decide) ?_
      refine lv_iadd (pc := 71) hx hb dX2_sumBounds_71 ?_
      refine r_cNI (pc := 72) (rest := [.int a2, .int r61, .int a1, .ref (ad (20, 0, 0, 0))]) (As := [.ref (ad (23, 0, 0, 0)), .int (a1 + (1 : Int32))]) C hl.1 hP hS (k_X8_at l G hC (cl_20_2 hC h0) (fun _ _ _ _ => rfl) hw) (List.mem_of_getElem? (i := 11) rfl) mw_453 mw_56 mw_454 ⟨rfl, rfl⟩ hd_X8_at rfl rfl ⟨Nat.le_of_ble_eq_true rfl, Nat.le_of_ble_eq_true rfl⟩ (Nat.le_of_ble_eq_true rfl) ⟨Nat.zero_le _, Nat.zero_le _⟩ dX2_sumBounds_72 (fun r72 M72 H locs hw hP hS => ?_)
      refine lv_iload (pc := 75) hx hb dX2_sumBounds_75 (lv_at hl 0 rfl) ?_
      refine r_cNI (pc := 77) (rest := [.int r61, .int a1, .ref (ad (20, 0, 0, 0))]) (As := [.int a2, .int r72, .int r41]) C hl.1 hP hS (k_X8_sumOf l G hC  hw) (List.mem_of_getElem? (i := 20) rfl) mw_513 mw_56 mw_514 ⟨rfl, rfl⟩ hd_X8_sumOf rfl rfl ⟨Nat.le_of_ble_eq_true rfl, Nat.le_of_ble_eq_true rfl⟩ (Nat.le_of_ble_eq_true rfl) ⟨Nat.zero_le _, Nat.zero_le _⟩ dX2_sumBounds_77 (fun r77 M77 H locs hw hP hS => ?_)
      refine r_cVV (pc := 80) (rest := []) (As := [.int a1, .int r61, .int r77]) C hl.1 hP hS (k_X2_setBounds l G hC h0 hw) h0 rfl rfl mw_570 mw_572 mw_18 mw_62 mw_573 ⟨rfl, rfl⟩ hd_X2_setBounds rfl rfl ⟨Nat.le_of_ble_eq_true rfl, Nat.le_of_ble_eq_true rfl⟩ (Nat.le_of_ble_eq_true rfl) ⟨Nat.zero_le _, Nat.zero_le _⟩ dX2_sumBounds_80 (fun M80 H locs hw hP hS => ?_)
      exact r_vret (pc := 83) C hP hS hw dX2_sumBounds_83
    · replace hw := if_t h hw
      refine lv_aload_n (pc := 29) hx hb dX2_sumBounds_29 rfl (lv_at hl 1 rfl) ?_
      refine gf_239 (pc := 30) C hP h0 dX2_sumBounds_30 ?_
      refine lv_goto (pc := 33) (tgt := 40) hx hb dX2_sumBounds_33 (by decide) ?_
      refine lv_iload_n (pc := 40) hx hb dX2_sumBounds_40 rfl (lv_at hl 4 rfl) ?_
      refine r_cNI (pc := 41) (rest := []) (As := [.ref (ad (23, 0, 0, 0)), .int a3]) C hl.1 hP hS (k_X8_at l G hC (cl_20_2 hC h0) (fun _ _ _ _ => rfl) hw) (List.mem_of_getElem? (i := 11) rfl) mw_453 mw_56 mw_454 ⟨rfl, rfl⟩ hd_X8_at rfl rfl ⟨Nat.le_of_ble_eq_true rfl, Nat.le_of_ble_eq_true rfl⟩ (Nat.le_of_ble_eq_true rfl) ⟨Nat.zero_le _, Nat.zero_le _⟩ dX2_sumBounds_41 (fun r41 M41 H locs hw hP hS => ?_)
      refine lv_istore (pc := 44) (lv' := [(5, .int r41), (4, .int r18), (0, .ref (ad (20, 0, 0, 0))), (1, .int a1), (2, .int a2), (3, .int a3)]) hx hb dX2_sumBounds_44 hl (by decide) rfl (fun ls hl => ?_)
      refine lv_aload_n (pc := 46) hx hb dX2_sumBounds_46 rfl (lv_at hl 2 rfl) ?_
      refine lv_iload_n (pc := 47) hx hb dX2_sumBounds_47 rfl (lv_at hl 3 rfl) ?_
      refine lv_iload_n (pc := 48) hx hb dX2_sumBounds_48 rfl (lv_at hl 4 rfl) ?_
      refine lv_aload_n (pc := 49) hx hb dX2_sumBounds_49 rfl (lv_at hl 2 rfl) ?_
      refine gf_237 (pc := 50) C hP h0 dX2_sumBounds_50 ?_
      refine lv_iload_n (pc := 53) hx hb dX2_sumBounds_53 rfl (lv_at hl 3 rfl) ?_
      refine lv_iconst (pc := 54) (v := (1 : Int32)) hx hb dX2_sumBounds_54 (by decide) ?_
      refine lv_iadd (pc := 55) hx hb dX2_sumBounds_55 ?_
      refine r_cNI (pc := 56) (rest := [.int a2, .int a1, .ref (ad (20, 0, 0, 0))]) (As := [.ref (ad (22, 0, 0, 0)), .int (a1 + (1 : Int32))]) C hl.1 hP hS (k_X8_at l G hC (cl_20_1 hC h0) (fun _ _ _ _ => rfl) hw) (List.mem_of_getElem? (i := 11) rfl) mw_453 mw_56 mw_454 ⟨rfl, rfl⟩ hd_X8_at rfl rfl ⟨Nat.le_of_ble_eq_true rfl, Nat.le_of_ble_eq_true rfl⟩ (Nat.le_of_ble_eq_true rfl) ⟨Nat.zero_le _, Nat.zero_le _⟩ dX2_sumBounds_56 (fun r56 M56 H locs hw hP hS => ?_)
      refine lv_iload (pc := 59) hx hb dX2_sumBounds_59 (lv_at hl 1 rfl) ?_
      refine r_cNI (pc := 61) (rest := [.int a1, .ref (ad (20, 0, 0, 0))]) (As := [.int a2, .int r56, .int r18]) C hl.1 hP hS (k_X8_sumOf l G hC  hw) (List.mem_of_getElem? (i := 20) rfl) mw_513 mw_56 mw_514 ⟨rfl, rfl⟩ hd_X8_sumOf rfl rfl ⟨Nat.le_of_ble_eq_true rfl, Nat.le_of_ble_eq_true rfl⟩ (Nat.le_of_ble_eq_true rfl) ⟨Nat.zero_le _, Nat.zero_le _⟩ dX2_sumBounds_61 (fun r61 M61 H locs hw hP hS => ?_)
      refine lv_iload_n (pc := 64) hx hb dX2_sumBounds_64 rfl (lv_at hl 4 rfl) ?_
      refine lv_aload_n (pc := 65) hx hb dX2_sumBounds_65 rfl (lv_at hl 2 rfl) ?_
      refine gf_239 (pc := 66) C hP h0 dX2_sumBounds_66 ?_
      refine lv_iload_n (pc := 69) hx hb dX2_sumBounds_69 rfl (lv_at hl 3 rfl) ?_
      refine lv_iconst (pc := 70) (v := (1 : Int32)) hx hb dX2_sumBounds_70 (by decide) ?_
      refine lv_iadd (pc := 71) hx hb dX2_sumBounds_71 ?_
      refine r_cNI (pc := 72) (rest := [.int a2, .int r61, .int a1, .ref (ad (20, 0, 0, 0))]) (As := [.ref (ad (23, 0, 0, 0)), .int (a1 + (1 : Int32))]) C hl.1 hP hS (k_X8_at l G hC (cl_20_2 hC h0) (fun _ _ _ _ => rfl) hw) (List.mem_of_getElem? (i := 11) rfl) mw_453 mw_56 mw_454 ⟨rfl, rfl⟩ hd_X8_at rfl rfl ⟨Nat.le_of_ble_eq_true rfl, Nat.le_of_ble_eq_true rfl⟩ (Nat.le_of_ble_eq_true rfl) ⟨Nat.zero_le _, Nat.zero_le _⟩ dX2_sumBounds_72 (fun r72 M72 H locs hw hP hS => ?_)
      refine lv_iload (pc := 75) hx hb dX2_sumBounds_75 (lv_at hl 0 rfl) ?_
      refine r_cNI (pc := 77) (rest := [.int r61, .int a1, .ref (ad (20, 0, 0, 0))]) (As := [.int a2, .int r72, .int r41]) C hl.1 hP hS (k_X8_sumOf l G hC  hw) (List.mem_of_getElem? (i := 20) rfl) mw_513 mw_56 mw_514 ⟨rfl, rfl⟩ hd_X8_sumOf rfl rfl ⟨Nat.le_of_ble_eq_true rfl, Nat.le_of_ble_eq_true rfl⟩ (Nat.le_of_ble_eq_true rfl) ⟨Nat.zero_le _, Nat.zero_le _⟩ dX2_sumBounds_77 (fun r77 M77 H locs hw hP hS => ?_)
      refine r_cVV (pc := 80) (rest := []) (As := [.int a1, .int r61, .int r77]) C hl.1 hP hS (k_X2_setBounds l G hC h0 hw) h0 rfl rfl mw_570 mw_572 mw_18 mw_62 mw_573 ⟨rfl, rfl⟩ hd_X2_setBounds rfl rfl ⟨Nat.le_of_ble_eq_true rfl, Nat.le_of_ble_eq_true rfl⟩ (Nat.le_of_ble_eq_true rfl) ⟨Nat.zero_le _, Nat.zero_le _⟩ dX2_sumBounds_80 (fun M80 H locs hw hP hS => ?_)
      exact r_vret (pc := 83) C hP hS hw dX2_sumBounds_83
  · replace hw := if_t h hw
    refine lv_aload_n (pc := 6) hx hb dX2_sumBounds_6 rfl (lv_at hl 0 rfl) ?_
    refine gf_237 (pc := 7) C hP h0 dX2_sumBounds_7 ?_
    refine lv_goto (pc := 10) (tgt := 17) hx hb dX2_sumBounds_10 (by decide) ?_
    refine lv_iload_n (pc := 17) hx hb dX2_sumBounds_17 rfl (lv_at hl 3 rfl) ?_
    refine r_cNI (pc := 18) (rest := []) (As := [.ref (ad (22, 0, 0, 0)), .int a3]) C hl.1 hP hS (k_X8_at l G hC (cl_20_1 hC h0) (fun _ _ _ _ => rfl) hw) (List.mem_of_getElem? (i := 11) rfl) mw_453 mw_56 mw_454 ⟨rfl, rfl⟩ hd_X8_at rfl rfl ⟨Nat.le_of_ble_eq_true rfl, Nat.le_of_ble_eq_true rfl⟩ (Nat.le_of_ble_eq_true rfl) ⟨Nat.zero_le _, Nat.zero_le _⟩ dX2_sumBounds_18 (fun r18 M18 H locs hw hP hS => ?_)
    refine lv_istore (pc := 21) (lv' := [(4, .int r18), (0, .ref (ad (20, 0, 0, 0))), (1, .int a1), (2, .int a2), (3, .int a3)]) hx hb dX2_sumBounds_21 hl (by decide) rfl (fun ls hl => ?_)
    refine lv_iload_n (pc := 23) hx hb dX2_sumBounds_23 rfl (lv_at hl 3 rfl) ?_
    refine lv_bipush (pc := 24) (v := (43 : Int32)) hx hb dX2_sumBounds_24 (by decide) ?_
    refine lv_icmp_ne (pc := 26) (tgt := 36) hx hb dX2_sumBounds_26 (by decide) (fun h => ?_) (fun h => ?_)
    · replace hw := if_f h hw
      refine lv_aload_n (pc := 36) hx hb dX2_sumBounds_36 rfl (lv_at hl 1 rfl) ?_
      refine gf_237 (pc := 37) C hP h0 dX2_sumBounds_37 ?_
      refine lv_iload_n (pc := 40) hx hb dX2_sumBounds_40 rfl (lv_at hl 4 rfl) ?_
      refine r_cNI (pc := 41) (rest := []) (As := [.ref (ad (22, 0, 0, 0)), .int a3]) C hl.1 hP hS (k_X8_at l G hC (cl_20_1 hC h0) (fun _ _ _ _ => rfl) hw) (List.mem_of_getElem? (i := 11) rfl) mw_453 mw_56 mw_454 ⟨rfl, rfl⟩ hd_X8_at rfl rfl ⟨Nat.le_of_ble_eq_true rfl, Nat.le_of_ble_eq_true rfl⟩ (Nat.le_of_ble_eq_true rfl) ⟨Nat.zero_le _, Nat.zero_le _⟩ dX2_sumBounds_41 (fun r41 M41 H locs hw hP hS => ?_)
      refine lv_istore (pc := 44) (lv' := [(5, .int r41), (4, .int r18), (0, .ref (ad (20, 0, 0, 0))), (1, .int a1), (2, .int a2), (3, .int a3)]) hx hb dX2_sumBounds_44 hl (by decide) rfl (fun ls hl => ?_)
      refine lv_aload_n (pc := 46) hx hb dX2_sumBounds_46 rfl (lv_at hl 2 rfl) ?_
      refine lv_iload_n (pc := 47) hx hb dX2_sumBounds_47 rfl (lv_at hl 3 rfl) ?_
      refine lv_iload_n (pc := 48) hx hb dX2_sumBounds_48 rfl (lv_at hl 4 rfl) ?_
      refine lv_aload_n (pc := 49) hx hb dX2_sumBounds_49 rfl (lv_at hl 2 rfl) ?_
      refine gf_237 (pc := 50) C hP h0 dX2_sumBounds_50 ?_
      refine lv_iload_n (pc := 53) hx hb dX2_sumBounds_53 rfl (lv_at hl 3 rfl) ?_
      refine lv_iconst (pc := 54) (v := (1 : Int32)) hx hb dX2_sumBounds_54 (by decide) ?_
      refine lv_iadd (pc := 55) hx hb dX2_sumBounds_55 ?_
      refine r_cNI (pc := 56) (rest := [.int a2, .int a1, .ref (ad (20, 0, 0, 0))]) (As := [.ref (ad (22, 0, 0, 0)), .int (a1 + (1 : Int32))]) C hl.1 hP hS (k_X8_at l G hC (cl_20_1 hC h0) (fun _ _ _ _ => rfl) hw) (List.mem_of_getElem? (i := 11) rfl) mw_453 mw_56 mw_454 ⟨rfl, rfl⟩ hd_X8_at rfl rfl ⟨Nat.le_of_ble_eq_true rfl, Nat.le_of_ble_eq_true rfl⟩ (Nat.le_of_ble_eq_true rfl) ⟨Nat.zero_le _, Nat.zero_le _⟩ dX2_sumBounds_56 (fun r56 M56 H locs hw hP hS => ?_)
      refine lv_iload (pc := 59) hx hb dX2_sumBounds_59 (lv_at hl 1 rfl) ?_
      refine r_cNI (pc := 61) (rest := [.int a1, .ref (ad (20, 0, 0, 0))]) (As := [.int a2, .int r56, .int r18]) C hl.1 hP hS (k_X8_sumOf l G hC  hw) (List.mem_of_getElem? (i := 20) rfl) mw_513 mw_56 mw_514 ⟨rfl, rfl⟩ hd_X8_sumOf rfl rfl ⟨Nat.le_of_ble_eq_true rfl, Nat.le_of_ble_eq_true rfl⟩ (Nat.le_of_ble_eq_true rfl) ⟨Nat.zero_le _, Nat.zero_le _⟩ dX2_sumBounds_61 (fun r61 M61 H locs hw hP hS => ?_)
      refine lv_iload_n (pc := 64) hx hb dX2_sumBounds_64 rfl (lv_at hl 4 rfl) ?_
      refine lv_aload_n (pc := 65) hx hb dX2_sumBounds_65 rfl (lv_at hl 2 rfl) ?_
      refine gf_239 (pc := 66) C hP h0 dX2_sumBounds_66 ?_
      refine lv_iload_n (pc := 69) hx hb dX2_sumBounds_69 rfl (lv_at hl 3 rfl) ?_
      refine lv_iconst (pc := 70) (v := (1 : Int32)) hx hb dX2_sumBounds_70 (by decide) ?_
      refine lv_iadd (pc := 71) hx hb dX2_sumBounds_71 ?_
      refine r_cNI (pc := 72) (rest := [.int a2, .int r61, .int a1, .ref (ad (20, 0, 0, 0))]) (As := [.ref (ad (23, 0, 0, 0)), .int (a1 + (1 : Int32))]) C hl.1 hP hS (k_X8_at l G hC (cl_20_2 hC h0) (fun _ _ _ _ => rfl) hw) (List.mem_of_getElem? (i := 11) rfl) mw_453 mw_56 mw_454 ⟨rfl, rfl⟩ hd_X8_at rfl rfl ⟨Nat.le_of_ble_eq_true rfl, Nat.le_of_ble_eq_true rfl⟩ (Nat.le_of_ble_eq_true rfl) ⟨Nat.zero_le _, Nat.zero_le _⟩ dX2_sumBounds_72 (fun r72 M72 H locs hw hP hS => ?_)
      refine lv_iload (pc := 75) hx hb dX2_sumBounds_75 (lv_at hl 0 rfl) ?_
      refine r_cNI (pc := 77) (rest := [.int r61, .int a1, .ref (ad (20, 0, 0, 0))]) (As := [.int a2, .int r72, .int r41]) C hl.1 hP hS (k_X8_sumOf l G hC  hw) (List.mem_of_getElem? (i := 20) rfl) mw_513 mw_56 mw_514 ⟨rfl, rfl⟩ hd_X8_sumOf rfl rfl ⟨Nat.le_of_ble_eq_true rfl, Nat.le_of_ble_eq_true rfl⟩ (Nat.le_of_ble_eq_true rfl) ⟨Nat.zero_le _, Nat.zero_le _⟩ dX2_sumBounds_77 (fun r77 M77 H locs hw hP hS => ?_)
      refine r_cVV (pc := 80) (rest := []) (As := [.int a1, .int r61, .int r77]) C hl.1 hP hS (k_X2_setBounds l G hC h0 hw) h0 rfl rfl mw_570 mw_572 mw_18 mw_62 mw_573 ⟨rfl, rfl⟩ hd_X2_setBounds rfl rfl ⟨Nat.le_of_ble_eq_true rfl, Nat.le_of_ble_eq_true rfl⟩ (Nat.le_of_ble_eq_true rfl) ⟨Nat.zero_le _, Nat.zero_le _⟩ dX2_sumBounds_80 (fun M80 H locs hw hP hS => ?_)
      exact r_vret (pc := 83) C hP hS hw dX2_sumBounds_83
    · replace hw := if_t h hw
      refine lv_aload_n (pc := 29) hx hb dX2_sumBounds_29 rfl (lv_at hl 1 rfl) ?_
      refine gf_239 (pc := 30) C hP h0 dX2_sumBounds_30 ?_
      refine lv_goto (pc := 33) (tgt := 40) hx hb dX2_sumBounds_33 (by decide) ?_
      refine lv_iload_n (pc := 40) hx hb dX2_sumBounds_40 rfl (lv_at hl 4 rfl) ?_
      refine r_cNI (pc := 41) (rest := []) (As := [.ref (ad (23, 0, 0, 0)), .int a3]) C hl.1 hP hS (k_X8_at l G hC (cl_20_2 hC h0) (fun _ _ _ _ => rfl) hw) (List.mem_of_getElem? (i := 11) rfl) mw_453 mw_56 mw_454 ⟨rfl, rfl⟩ hd_X8_at rfl rfl ⟨Nat.le_of_ble_eq_true rfl, Nat.le_of_ble_eq_true rfl⟩ (Nat.le_of_ble_eq_true rfl) ⟨Nat.zero_le _, Nat.zero_le _⟩ dX2_sumBounds_41 (fun r41 M41 H locs hw hP hS => ?_)
      refine lv_istore (pc := 44) (lv' := [(5, .int r41), (4, .int r18), (0, .ref (ad (20, 0, 0, 0))), (1, .int a1), (2, .int a2), (3, .int a3)]) hx hb dX2_sumBounds_44 hl (by decide) rfl (fun ls hl => ?_)
      refine lv_aload_n (pc := 46) hx hb dX2_sumBounds_46 rfl (lv_at hl 2 rfl) ?_
      refine lv_iload_n (pc := 47) hx hb dX2_sumBounds_47 rfl (lv_at hl 3 rfl) ?_
      refine lv_iload_n (pc := 48) hx hb dX2_sumBounds_48 rfl (lv_at hl 4 rfl) ?_
      refine lv_aload_n (pc := 49) hx hb dX2_sumBounds_49 rfl (lv_at hl 2 rfl) ?_
      refine gf_237 (pc := 50) C hP h0 dX2_sumBounds_50 ?_
      refine lv_iload_n (pc := 53) hx hb dX2_sumBounds_53 rfl (lv_at hl 3 rfl) ?_
      refine lv_iconst (pc := 54) (v := (1 : Int32)) hx hb dX2_sumBounds_54 (by decide) ?_
      refine lv_iadd (pc := 55) hx hb dX2_sumBounds_55 ?_
      refine r_cNI (pc := 56) (rest := [.int a2, .int a1, .ref (ad (20, 0, 0, 0))]) (As := [.ref (ad (22, 0, 0, 0)), .int (a1 + (1 : Int32))]) C hl.1 hP hS (k_X8_at l G hC (cl_20_1 hC h0) (fun _ _ _ _ => rfl) hw) (List.mem_of_getElem? (i := 11) rfl) mw_453 mw_56 mw_454 ⟨rfl, rfl⟩ hd_X8_at rfl rfl ⟨Nat.le_of_ble_eq_true rfl, Nat.le_of_ble_eq_true rfl⟩ (Nat.le_of_ble_eq_true rfl) ⟨Nat.zero_le _, Nat.zero_le _⟩ dX2_sumBounds_56 (fun r56 M56 H locs hw hP hS => ?_)
      refine lv_iload (pc := 59) hx hb dX2_sumBounds_59 (lv_at hl 1 rfl) ?_
      refine r_cNI (pc := 61) (rest := [.int a1, .ref (ad (20, 0, 0, 0))]) (As := [.int a2, .int r56, .int r18]) C hl.1 hP hS (k_X8_sumOf l G hC  hw) (List.mem_of_getElem? (i := 20) rfl) mw_513 mw_56 mw_514 ⟨rfl, rfl⟩ hd_X8_sumOf rfl rfl ⟨Nat.le_of_ble_eq_true rfl, Nat.le_of_ble_eq_true rfl⟩ (Nat.le_of_ble_eq_true rfl) ⟨Nat.zero_le _, Nat.zero_le _⟩ dX2_sumBounds_61 (fun r61 M61 H locs hw hP hS => ?_)
      refine lv_iload_n (pc := 64) hx hb dX2_sumBounds_64 rfl (lv_at hl 4 rfl) ?_
      refine lv_aload_n (pc := 65) hx hb dX2_sumBounds_65 rfl (lv_at hl 2 rfl) ?_
      refine gf_239 (pc := 66) C hP h0 dX2_sumBounds_66 ?_
      refine lv_iload_n (pc := 69) hx hb dX2_sumBounds_69 rfl (lv_at hl 3 rfl) ?_
      refine lv_iconst (pc := 70) (v := (1 : Int32)) hx hb dX2_sumBounds_70 (by decide) ?_
      refine lv_iadd (pc := 71) hx hb dX2_sumBounds_71 ?_
      refine r_cNI (pc := 72) (rest := [.int a2, .int r61, .int a1, .ref (ad (20, 0, 0, 0))]) (As := [.ref (ad (23, 0, 0, 0)), .int (a1 + (1 : Int32))]) C hl.1 hP hS (k_X8_at l G hC (cl_20_2 hC h0) (fun _ _ _ _ => rfl) hw) (List.mem_of_getElem? (i := 11) rfl) mw_453 mw_56 mw_454 ⟨rfl, rfl⟩ hd_X8_at rfl rfl ⟨Nat.le_of_ble_eq_true rfl, Nat.le_of_ble_eq_true rfl⟩ (Nat.le_of_ble_eq_true rfl) ⟨Nat.zero_le _, Nat.zero_le _⟩ dX2_sumBounds_72 (fun r72 M72 H locs hw hP hS => ?_)
      refine lv_iload (pc := 75) hx hb dX2_sumBounds_75 (lv_at hl 0 rfl) ?_
      refine r_cNI (pc := 77) (rest := [.int r61, .int a1, .ref (ad (20, 0, 0, 0))]) (As := [.int a2, .int r72, .int r41]) C hl.1 hP hS (k_X8_sumOf l G hC  hw) (List.mem_of_getElem? (i := 20) rfl) mw_513 mw_56 mw_514 ⟨rfl, rfl⟩ hd_X8_sumOf rfl rfl ⟨Nat.le_of_ble_eq_true rfl, Nat.le_of_ble_eq_true rfl⟩ (Nat.le_of_ble_eq_true rfl) ⟨Nat.zero_le _, Nat.zero_le _⟩ dX2_sumBounds_77 (fun r77 M77 H locs hw hP hS => ?_)
      refine r_cVV (pc := 80) (rest := []) (As := [.int a1, .int r61, .int r77]) C hl.1 hP hS (k_X2_setBounds l G hC h0 hw) h0 rfl rfl mw_570 mw_572 mw_18 mw_62 mw_573 ⟨rfl, rfl⟩ hd_X2_setBounds rfl rfl ⟨Nat.le_of_ble_eq_true rfl, Nat.le_of_ble_eq_true rfl⟩ (Nat.le_of_ble_eq_true rfl) ⟨Nat.zero_le _, Nat.zero_le _⟩ dX2_sumBounds_80 (fun M80 H locs hw hP hS => ?_)
      exact r_vret (pc := 83) C hP hS hw dX2_sumBounds_83
end
theorem k_X2_sumBounds (l : Launch) (G : GG) {I : ix → Prop} {ad : ix → Nat} (hC : clo I) {a1 : Int32} {a2 : Int32} {a3 : Int32} (h0 : I (20, 0, 0, 0)) {Q : Mem → Prop} {M : Mem} (hw : w_X2_sumBounds a1 a2 a3 Q M) : Met l yX2_sumBounds (wW yX2_sumBounds cX2_sumBounds 6 none) rm_X2_sumBounds (va_Pc [.ref (ad (20, 0, 0, 0)), .int a1, .int a2, .int a3] (fun U => wd G I ad M U.heap ∧ wK G U)) (qV G I ad Q) 0 0 (fA I ad) := met_of (by decide +kernel) (Nat.le_of_ble_eq_true rfl) (fun p e s m below meth c C hP hS ls hl => j_X2_sumBounds_0 C hC h0 _ _ _ _ hw hP hS hl)
section
variable {p : Program} {l : Launch} {e : Env} {s : State} {m : MethodId} {args : Array Value} {below : List Frame} {meth : Method} {c : Code} 
variable  {G : GG} {I : ix → Prop} {ad : ix → Nat}
set_option maxHeartbeats 4000000 in
set_option maxRecDepth 100000 in
theorem j_X2_byteBounds_0 {a1 : Int32} {a2 : Int32} {a3 : Int32} (C : cx p s m args meth c cX2_byteBounds 6 none RX2 G) (hC : clo I) (h0 : I (20, 0, 0, 0)) {Q : Mem → Prop} : ∀ (M : Mem) (H : Heap) (locs : List Loc) (ls : Array Slot), w_X2_byteBounds a1 a2 a3 Q M → wd G I ad M H → va_S (fA I ad) s.heap H locs → lv_has ls 6 [(0, .ref (ad (20, 0, 0, 0))), (1, .int a1), (2, .int a2), (3, .int a3)] → W p l e rm_X2_byteBounds s m args below meth c H locs 0 0 (MQ below (qV G I ad Q) args s 0 0 (fA I ad)) (F0 m 0 ls []) := by
  have hx := C.1
  have hb := C.2.1
  have hown := C.2.2.2.1
  have hts := C.2.2.2.2.1
  intro M H locs ls hw hP hS hl
  unfold w_X2_byteBounds at hw
  refine lv_iload_n (pc := 0) hx hb dX2_byteBounds_0 rfl (lv_at hl 2 rfl) ?_
  refine lv_i2b (pc := 1) hx hb dX2_byteBounds_1 rfl ?_
  refine lv_topi (fun x4_2 ex4_2 => ?_)
  replace hw := hw x4_2 ex4_2
  refine lv_istore (pc := 2) (lv' := [(4, .int x4_2), (0, .ref (ad (20, 0, 0, 0))), (1, .int a1), (2, .int a2), (3, .int a3)]) hx hb dX2_byteBounds_2 hl (by decide) rfl (fun ls hl => ?_)
  refine lv_iload_n (pc := 4) hx hb dX2_byteBounds_4 rfl (lv_at hl 4 rfl) ?_
  refine lv_i2b (pc := 5) hx hb dX2_byteBounds_5 rfl ?_
  refine lv_topi (fun x5_6 ex5_6 => ?_)
  replace hw := hw x5_6 ex5_6
  refine lv_istore (pc := 6) (lv' := [(5, .int x5_6), (4, .int x4_2), (0, .ref (ad (20, 0, 0, 0))), (1, .int a1), (2, .int a2), (3, .int a3)]) hx hb dX2_byteBounds_6 hl (by decide) rfl (fun ls hl => ?_)
  refine lv_iload_n (pc := 8) hx hb dX2_byteBounds_8 rfl (lv_at hl 5 rfl) ?_
  refine lv_iload_n (pc := 9) hx hb dX2_byteBounds_9 rfl (lv_at hl 4 rfl) ?_
  refine lv_isub (pc := 10) hx hb dX2_byteBounds_10 ?_
  refine lv_sipush (pc := 11) (v := (256 : Int32)) hx hb dX2_byteBounds_11 (by decide) ?_
  refine lv_icmp_ge (pc := 14) (tgt := 36) hx hb dX2_byteBounds_14 (by decide) (fun h => ?_) (fun h => ?_)
  · replace hw := if_t h hw
    refine lv_aload_n (pc := 36) hx hb dX2_byteBounds_36 rfl (lv_at hl 2 rfl) ?_
    refine lv_iload_n (pc := 37) hx hb dX2_byteBounds_37 rfl (lv_at hl 3 rfl) ?_
    refine lv_bipush (pc := 38) (v := (-128 : Int32)) hx hb dX2_byteBounds_38 (by decide) ?_
    refine lv_bipush (pc := 40) (v := (127 : Int32)) hx hb dX2_byteBounds_40 (by decide) ?_
    refine r_cVV (pc := 42) (rest := []) (As := [.int a1, .int (-128 : Int32), .int (127 : Int32)]) C hl.1 hP hS (k_X2_setBounds l G hC h0 hw) h0 rfl rfl mw_570 mw_572 mw_18 mw_62 mw_573 ⟨rfl, rfl⟩ hd_X2_setBounds rfl rfl ⟨Nat.le_of_ble_eq_true rfl, Nat.le_of_ble_eq_true rfl⟩ (Nat.le_of_ble_eq_true rfl) ⟨Nat.zero_le _, Nat.zero_le _⟩ dX2_byteBounds_42 (fun M42 H locs hw hP hS => ?_)
    exact r_vret (pc := 45) C hP hS hw dX2_byteBounds_45
  · replace hw := if_f h hw
    refine lv_iload (pc := 17) hx hb dX2_byteBounds_17 (lv_at hl 1 rfl) ?_
    refine lv_iload (pc := 19) hx hb dX2_byteBounds_19 (lv_at hl 0 rfl) ?_
    refine lv_icmp_gt (pc := 21) (tgt := 36) hx hb dX2_byteBounds_21 (by decide) (fun h => ?_) (fun h => ?_)
    · replace hw := if_t h hw
      refine lv_aload_n (pc := 36) hx hb dX2_byteBounds_36 rfl (lv_at hl 2 rfl) ?_
      refine lv_iload_n (pc := 37) hx hb dX2_byteBounds_37 rfl (lv_at hl 3 rfl) ?_
      refine lv_bipush (pc := 38) (v := (-128 : Int32)) hx hb dX2_byteBounds_38 (by decide) ?_
      refine lv_bipush (pc := 40) (v := (127 : Int32)) hx hb dX2_byteBounds_40 (by decide) ?_
      refine r_cVV (pc := 42) (rest := []) (As := [.int a1, .int (-128 : Int32), .int (127 : Int32)]) C hl.1 hP hS (k_X2_setBounds l G hC h0 hw) h0 rfl rfl mw_570 mw_572 mw_18 mw_62 mw_573 ⟨rfl, rfl⟩ hd_X2_setBounds rfl rfl ⟨Nat.le_of_ble_eq_true rfl, Nat.le_of_ble_eq_true rfl⟩ (Nat.le_of_ble_eq_true rfl) ⟨Nat.zero_le _, Nat.zero_le _⟩ dX2_byteBounds_42 (fun M42 H locs hw hP hS => ?_)
      exact r_vret (pc := 45) C hP hS hw dX2_byteBounds_45
    · replace hw := if_f h hw
      refine lv_aload_n (pc := 24) hx hb dX2_byteBounds_24 rfl (lv_at hl 2 rfl) ?_
      refine lv_iload_n (pc := 25) hx hb dX2_byteBounds_25 rfl (lv_at hl 3 rfl) ?_
      refine lv_iload (pc := 26) hx hb dX2_byteBounds_26 (lv_at hl 1 rfl) ?_
      refine lv_iload (pc := 28) hx hb dX2_byteBounds_28 (lv_at hl 0 rfl) ?_
      refine r_cVV (pc := 30) (rest := []) (As := [.int a1, .int x4_2, .int x5_6]) C hl.1 hP hS (k_X2_setBounds l G hC h0 hw) h0 rfl rfl mw_570 mw_572 mw_18 mw_62 mw_573 ⟨rfl, rfl⟩ hd_X2_setBounds rfl rfl ⟨Nat.le_of_ble_eq_true rfl, Nat.le_of_ble_eq_true rfl⟩ (Nat.le_of_ble_eq_true rfl) ⟨Nat.zero_le _, Nat.zero_le _⟩ dX2_byteBounds_30 (fun M30 H locs hw hP hS => ?_)
      refine lv_goto (pc := 33) (tgt := 45) hx hb dX2_byteBounds_33 (by decide) ?_
      exact r_vret (pc := 45) C hP hS hw dX2_byteBounds_45
end
theorem k_X2_byteBounds (l : Launch) (G : GG) {I : ix → Prop} {ad : ix → Nat} (hC : clo I) {a1 : Int32} {a2 : Int32} {a3 : Int32} (h0 : I (20, 0, 0, 0)) {Q : Mem → Prop} {M : Mem} (hw : w_X2_byteBounds a1 a2 a3 Q M) : Met l yX2_byteBounds (wW yX2_byteBounds cX2_byteBounds 6 none) rm_X2_byteBounds (va_Pc [.ref (ad (20, 0, 0, 0)), .int a1, .int a2, .int a3] (fun U => wd G I ad M U.heap ∧ wK G U)) (qV G I ad Q) 0 0 (fA I ad) := met_of (by decide +kernel) (Nat.le_of_ble_eq_true rfl) (fun p e s m below meth c C hP hS ls hl => j_X2_byteBounds_0 C hC h0 _ _ _ _ hw hP hS hl)
section
variable {p : Program} {l : Launch} {e : Env} {s : State} {m : MethodId} {args : Array Value} {below : List Frame} {meth : Method} {c : Code} 
variable  {G : GG} {I : ix → Prop} {ad : ix → Nat}
set_option maxHeartbeats 4000000 in
set_option maxRecDepth 100000 in
theorem j_X2_findBounds_0 {a1 : Int32} {s2 : Nat} {b2 : Nat} (C : cx p s m args meth c cX2_findBounds 6 none RX2 G) (hC : clo I) (h0 : I (20, 0, 0, 0)) (h2 : I (3, s2, b2, 0)) {Q : Mem → Prop} : ∀ (M : Mem) (H : Heap) (locs : List Loc) (ls : Array Slot), w_X2_findBounds a1 s2 b2 Q M → wd G I ad M H → va_S (fA I ad) s.heap H locs → lv_has ls 6 [(0, .ref (ad (20, 0, 0, 0))), (1, .int a1), (2, .ref (ad (3, s2, b2, 0)))] → W p l e rm_X2_findBounds s m args below meth c H locs 0 0 (MQ below (qV G I ad Q) args s 0 0 (fA I ad)) (F0 m 0 ls []) := by
  have hx := C.1
  have hb := C.2.1
  have hown := C.2.2.2.1
  have hts := C.2.2.2.2.1
  intro M H locs ls hw hP hS hl
  unfold w_X2_findBounds at hw
  refine lv_aload_n (pc := 0) hx hb dX2_findBounds_0 rfl (lv_at hl 0 rfl) ?_
  refine gf_241 (pc := 1) C hP h0 dX2_findBounds_1 ?_
  refine gf_182 (pc := 4) C hP (cl_20_3 hC h0) dX2_findBounds_4 ?_
  refine lv_iload_n (pc := 7) hx hb dX2_findBounds_7 rfl (lv_at hl 1 rfl) ?_
  refine r_ialdK (pc := 8) (n := 60) (k := a1.toNatClampNeg) C hP (cl_11_1 hC (cl_20_3 hC h0)) (fun _ _ _ _ => rfl) hw.1 rfl dX2_findBounds_8 ?_
  replace hw := hw.2
  refine lv_topi (fun x3_9 ex3_9 => ?_)
  replace hw := hw x3_9 ex3_9
  refine lv_istore_n (pc := 9) (lv' := [(3, .int x3_9), (0, .ref (ad (20, 0, 0, 0))), (1, .int a1), (2, .ref (ad (3, s2, b2, 0)))]) hx hb dX2_findBounds_9 rfl hl (by decide) rfl (fun ls hl => ?_)
  refine lv_aload_n (pc := 10) hx hb dX2_findBounds_10 rfl (lv_at hl 1 rfl) ?_
  refine gf_235 (pc := 11) C hP h0 dX2_findBounds_11 ?_
  refine lv_iload_n (pc := 14) hx hb dX2_findBounds_14 rfl (lv_at hl 2 rfl) ?_
  refine r_ialdK (pc := 15) (n := 60) (k := a1.toNatClampNeg) C hP (cl_20_0 hC h0) (fun _ _ _ _ => rfl) hw.1 rfl dX2_findBounds_15 ?_
  replace hw := hw.2
  refine lv_iconst (pc := 16) (v := (1 : Int32)) hx hb dX2_findBounds_16 (by decide) ?_
  refine lv_iand (pc := 17) hx hb dX2_findBounds_17 ?_
  refine lv_if_ne (pc := 18) (tgt := 31) hx hb dX2_findBounds_18 (by decide) (fun h => ?_) (fun h => ?_)
  · replace hw := if_f h hw
    refine lv_iload_n (pc := 31) hx hb dX2_findBounds_31 rfl (lv_at hl 0 rfl) ?_
    refine r_cNI (pc := 32) (rest := []) (As := [.int x3_9]) C hl.1 hP hS (k_X8_isLetter l G hC  hw) (List.mem_of_getElem? (i := 17) rfl) mw_439 mw_56 mw_440 ⟨rfl, rfl⟩ hd_X8_isLetter rfl rfl ⟨Nat.le_of_ble_eq_true rfl, Nat.le_of_ble_eq_true rfl⟩ (Nat.le_of_ble_eq_true rfl) ⟨Nat.zero_le _, Nat.zero_le _⟩ dX2_findBounds_32 (fun r32 M32 H locs hw hP hS => ?_)
    refine lv_if_eq (pc := 35) (tgt := 65) hx hb dX2_findBounds_35 (by decide) (fun h => ?_) (fun h => ?_)
    · replace hw := if_t h hw
      refine lv_aload_n (pc := 65) hx hb dX2_findBounds_65 rfl (lv_at hl 1 rfl) ?_
      refine gf_237 (pc := 66) C hP h0 dX2_findBounds_66 ?_
      refine lv_iload_n (pc := 69) hx hb dX2_findBounds_69 rfl (lv_at hl 2 rfl) ?_
      refine lv_iconst (pc := 70) (v := (1 : Int32)) hx hb dX2_findBounds_70 (by decide) ?_
      refine lv_iadd (pc := 71) hx hb dX2_findBounds_71 ?_
      refine r_cNI (pc := 72) (rest := []) (As := [.ref (ad (22, 0, 0, 0)), .int (a1 + (1 : Int32))]) C hl.1 hP hS (k_X8_at l G hC (cl_20_1 hC h0) (fun _ _ _ _ => rfl) hw) (List.mem_of_getElem? (i := 11) rfl) mw_453 mw_56 mw_454 ⟨rfl, rfl⟩ hd_X8_at rfl rfl ⟨Nat.le_of_ble_eq_true rfl, Nat.le_of_ble_eq_true rfl⟩ (Nat.le_of_ble_eq_true rfl) ⟨Nat.zero_le _, Nat.zero_le _⟩ dX2_findBounds_72 (fun r72 M72 H locs hw hP hS => ?_)
      refine lv_istore (pc := 75) (lv' := [(4, .int r72), (3, .int x3_9), (0, .ref (ad (20, 0, 0, 0))), (1, .int a1), (2, .ref (ad (3, s2, b2, 0)))]) hx hb dX2_findBounds_75 hl (by decide) rfl (fun ls hl => ?_)
      refine lv_aload_n (pc := 77) hx hb dX2_findBounds_77 rfl (lv_at hl 2 rfl) ?_
      refine gf_239 (pc := 78) C hP h0 dX2_findBounds_78 ?_
      refine lv_iload_n (pc := 81) hx hb dX2_findBounds_81 rfl (lv_at hl 3 rfl) ?_
      refine lv_iconst (pc := 82) (v := (1 : Int32)) hx hb dX2_findBounds_82 (by decide) ?_
      refine lv_iadd (pc := 83) hx hb dX2_findBounds_83 ?_
      refine r_cNI (pc := 84) (rest := []) (As := [.ref (ad (23, 0, 0, 0)), .int (a1 + (1 : Int32))]) C hl.1 hP hS (k_X8_at l G hC (cl_20_2 hC h0) (fun _ _ _ _ => rfl) hw) (List.mem_of_getElem? (i := 11) rfl) mw_453 mw_56 mw_454 ⟨rfl, rfl⟩ hd_X8_at rfl rfl ⟨Nat.le_of_ble_eq_true rfl, Nat.le_of_ble_eq_true rfl⟩ (Nat.le_of_ble_eq_true rfl) ⟨Nat.zero_le _, Nat.zero_le _⟩ dX2_findBounds_84 (fun r84 M84 H locs hw hP hS => ?_)
      refine lv_istore (pc := 87) (lv' := [(5, .int r84), (4, .int r72), (3, .int x3_9), (0, .ref (ad (20, 0, 0, 0))), (1, .int a1), (2, .ref (ad (3, s2, b2, 0)))]) hx hb dX2_findBounds_87 hl (by decide) rfl (fun ls hl => ?_)
      refine lv_iload_n (pc := 89) hx hb dX2_findBounds_89 rfl (lv_at hl 2 rfl) ?_
      by_cases hk0 : x3_9 = (37 : Int32)
      · replace hw := if_t hk0 hw
        refine lv_lookup (pc := 90) (tgt := 174) (off := 84) hx hb dX2_findBounds_90 (by decide) (by rw [hk0]; rfl) (by decide) ?_
        refine lv_aload_n (pc := 174) hx hb dX2_findBounds_174 rfl (lv_at hl 3 rfl) ?_
        refine lv_iload_n (pc := 175) hx hb dX2_findBounds_175 rfl (lv_at hl 4 rfl) ?_
        refine lv_iload (pc := 176) hx hb dX2_findBounds_176 (lv_at hl 1 rfl) ?_
        refine lv_iload (pc := 178) hx hb dX2_findBounds_178 (lv_at hl 0 rfl) ?_
        refine lv_aload_n (pc := 180) hx hb dX2_findBounds_180 rfl (lv_at hl 3 rfl) ?_
        refine gf_241 (pc := 181) C hP h0 dX2_findBounds_181 ?_
        refine gf_192 (pc := 184) C hP (cl_20_3 hC h0) dX2_findBounds_184 ?_
        refine lv_iload_n (pc := 187) hx hb dX2_findBounds_187 rfl (lv_at hl 4 rfl) ?_
        refine r_ialdK (pc := 188) (n := 60) (k := a1.toNatClampNeg) C hP (cl_11_4 hC (cl_20_3 hC h0)) (fun _ _ _ _ => rfl) hw.1 rfl dX2_findBounds_188 ?_
        replace hw := hw.2
        refine r_cVV (pc := 189) (rest := []) (As := [.int a1, .int r72, .int r84, .int (M84.1 (15, 0, 0, 0) a1.toNatClampNeg)]) C hl.1 hP hS (k_X2_leftOverBounds l G hC h0 hw) h0 rfl rfl mw_578 mw_580 mw_20 mw_62 mw_581 ⟨rfl, rfl⟩ hd_X2_leftOverBounds rfl rfl ⟨Nat.le_of_ble_eq_true rfl, Nat.le_of_ble_eq_true rfl⟩ (Nat.le_of_ble_eq_true rfl) ⟨Nat.zero_le _, Nat.zero_le _⟩ dX2_findBounds_189 (fun M189 H locs hw hP hS => ?_)
        refine lv_goto (pc := 192) (tgt := 253) hx hb dX2_findBounds_192 (by decide) ?_
        exact r_vret (pc := 253) C hP hS hw dX2_findBounds_253
      · replace hw := if_f hk0 hw
        by_cases hk1 : x3_9 = (42 : Int32)
        · replace hw := if_t hk1 hw
          refine lv_lookup (pc := 90) (tgt := 213) (off := 123) hx hb dX2_findBounds_90 (by decide) (by rw [hk1]; rfl) (by decide) ?_
          refine lv_aload_n (pc := 213) hx hb dX2_findBounds_213 rfl (lv_at hl 3 rfl) ?_
          refine lv_iload_n (pc := 214) hx hb dX2_findBounds_214 rfl (lv_at hl 4 rfl) ?_
          refine lv_aload_n (pc := 215) hx hb dX2_findBounds_215 rfl (lv_at hl 3 rfl) ?_
          refine gf_241 (pc := 216) C hP h0 dX2_findBounds_216 ?_
          refine gf_188 (pc := 219) C hP (cl_20_3 hC h0) dX2_findBounds_219 ?_
          refine lv_iload_n (pc := 222) hx hb dX2_findBounds_222 rfl (lv_at hl 4 rfl) ?_
          refine r_ialdK (pc := 223) (n := 60) (k := a1.toNatClampNeg) C hP (cl_11_3 hC (cl_20_3 hC h0)) (fun _ _ _ _ => rfl) hw.1 rfl dX2_findBounds_223 ?_
          replace hw := hw.2
          refine r_cVV (pc := 224) (rest := []) (As := [.int a1, .int (M84.1 (14, 0, 0, 0) a1.toNatClampNeg)]) C hl.1 hP hS (k_X2_productBounds l G hC h0 hw) h0 rfl rfl mw_589 mw_591 mw_22 mw_62 mw_592 ⟨rfl, rfl⟩ hd_X2_productBounds rfl rfl ⟨Nat.le_of_ble_eq_true rfl, Nat.le_of_ble_eq_true rfl⟩ (Nat.le_of_ble_eq_true rfl) ⟨Nat.zero_le _, Nat.zero_le _⟩ dX2_findBounds_224 (fun M224 H locs hw hP hS => ?_)
          refine lv_goto (pc := 227) (tgt := 253) hx hb dX2_findBounds_227 (by decide) ?_
          exact r_vret (pc := 253) C hP hS hw dX2_findBounds_253
        · replace hw := if_f hk1 hw
          by_cases hk2 : x3_9 = (43 : Int32)
          · replace hw := if_t hk2 hw
            refine lv_lookup (pc := 90) (tgt := 195) (off := 105) hx hb dX2_findBounds_90 (by decide) (by rw [hk2]; rfl) (by decide) ?_
            refine lv_aload_n (pc := 195) hx hb dX2_findBounds_195 rfl (lv_at hl 3 rfl) ?_
            refine lv_iload_n (pc := 196) hx hb dX2_findBounds_196 rfl (lv_at hl 4 rfl) ?_
            refine lv_iload_n (pc := 197) hx hb dX2_findBounds_197 rfl (lv_at hl 2 rfl) ?_
            refine lv_aload_n (pc := 198) hx hb dX2_findBounds_198 rfl (lv_at hl 3 rfl) ?_
            refine gf_241 (pc := 199) C hP h0 dX2_findBounds_199 ?_
            refine gf_188 (pc := 202) C hP (cl_20_3 hC h0) dX2_findBounds_202 ?_
            refine lv_iload_n (pc := 205) hx hb dX2_findBounds_205 rfl (lv_at hl 4 rfl) ?_
            refine r_ialdK (pc := 206) (n := 60) (k := a1.toNatClampNeg) C hP (cl_11_3 hC (cl_20_3 hC h0)) (fun _ _ _ _ => rfl) hw.1 rfl dX2_findBounds_206 ?_
            replace hw := hw.2
            refine r_cVV (pc := 207) (rest := []) (As := [.int a1, .int x3_9, .int (M84.1 (14, 0, 0, 0) a1.toNatClampNeg)]) C hl.1 hP hS (k_X2_sumBounds l G hC h0 hw) h0 rfl rfl mw_584 mw_586 mw_21 mw_62 mw_587 ⟨rfl, rfl⟩ hd_X2_sumBounds rfl rfl ⟨Nat.le_of_ble_eq_true rfl, Nat.le_of_ble_eq_true rfl⟩ (Nat.le_of_ble_eq_true rfl) ⟨Nat.zero_le _, Nat.zero_le _⟩ dX2_findBounds_207 (fun M207 H locs hw hP hS => ?_)
            refine lv_goto (pc := 210) (tgt := 253) hx hb dX2_findBounds_210 (by decide) ?_
            exact r_vret (pc := 253) C hP hS hw dX2_findBounds_253
          · replace hw := if_f hk2 hw
            by_cases hk3 : x3_9 = (45 : Int32)
            · replace hw := if_t hk3 hw
              refine lv_lookup (pc := 90) (tgt := 195) (off := 105) hx hb dX2_findBounds_90 (by decide) (by rw [hk3]; rfl) (by decide) ?_
              refine lv_aload_n (pc := 195) hx hb dX2_findBounds_195 rfl (lv_at hl 3 rfl) ?_
              refine lv_iload_n (pc := 196) hx hb dX2_findBounds_196 rfl (lv_at hl 4 rfl) ?_
              refine lv_iload_n (pc := 197) hx hb dX2_findBounds_197 rfl (lv_at hl 2 rfl) ?_
              refine lv_aload_n (pc := 198) hx hb dX2_findBounds_198 rfl (lv_at hl 3 rfl) ?_
              refine gf_241 (pc := 199) C hP h0 dX2_findBounds_199 ?_
              refine gf_188 (pc := 202) C hP (cl_20_3 hC h0) dX2_findBounds_202 ?_
              refine lv_iload_n (pc := 205) hx hb dX2_findBounds_205 rfl (lv_at hl 4 rfl) ?_
              refine r_ialdK (pc := 206) (n := 60) (k := a1.toNatClampNeg) C hP (cl_11_3 hC (cl_20_3 hC h0)) (fun _ _ _ _ => rfl) hw.1 rfl dX2_findBounds_206 ?_
              replace hw := hw.2
              refine r_cVV (pc := 207) (rest := []) (As := [.int a1, .int x3_9, .int (M84.1 (14, 0, 0, 0) a1.toNatClampNeg)]) C hl.1 hP hS (k_X2_sumBounds l G hC h0 hw) h0 rfl rfl mw_584 mw_586 mw_21 mw_62 mw_587 ⟨rfl, rfl⟩ hd_X2_sumBounds rfl rfl ⟨Nat.le_of_ble_eq_true rfl, Nat.le_of_ble_eq_true rfl⟩ (Nat.le_of_ble_eq_true rfl) ⟨Nat.zero_le _, Nat.zero_le _⟩ dX2_findBounds_207 (fun M207 H locs hw hP hS => ?_)
              refine lv_goto (pc := 210) (tgt := 253) hx hb dX2_findBounds_210 (by decide) ?_
              exact r_vret (pc := 253) C hP hS hw dX2_findBounds_253
            · replace hw := if_f hk3 hw
              by_cases hk4 : x3_9 = (121 : Int32)
              · replace hw := if_t hk4 hw
                refine lv_lookup (pc := 90) (tgt := 162) (off := 72) hx hb dX2_findBounds_90 (by decide) (by rw [hk4]; rfl) (by decide) ?_
                refine lv_aload_n (pc := 162) hx hb dX2_findBounds_162 rfl (lv_at hl 3 rfl) ?_
                refine lv_iload_n (pc := 163) hx hb dX2_findBounds_163 rfl (lv_at hl 4 rfl) ?_
                refine lv_iload (pc := 164) hx hb dX2_findBounds_164 (lv_at hl 1 rfl) ?_
                refine lv_iload (pc := 166) hx hb dX2_findBounds_166 (lv_at hl 0 rfl) ?_
                refine r_cVV (pc := 168) (rest := []) (As := [.int a1, .int r72, .int r84]) C hl.1 hP hS (k_X2_byteBounds l G hC h0 hw) h0 rfl rfl mw_574 mw_576 mw_19 mw_62 mw_577 ⟨rfl, rfl⟩ hd_X2_byteBounds rfl rfl ⟨Nat.le_of_ble_eq_true rfl, Nat.le_of_ble_eq_true rfl⟩ (Nat.le_of_ble_eq_true rfl) ⟨Nat.zero_le _, Nat.zero_le _⟩ dX2_findBounds_168 (fun M168 H locs hw hP hS => ?_)
                refine lv_goto (pc := 171) (tgt := 253) hx hb dX2_findBounds_171 (by decide) ?_
                exact r_vret (pc := 253) C hP hS hw dX2_findBounds_253
              · replace hw := if_f hk4 hw
                by_cases hk5 : x3_9 = (126 : Int32)
                · replace hw := if_t hk5 hw
                  refine lv_lookup (pc := 90) (tgt := 148) (off := 58) hx hb dX2_findBounds_90 (by decide) (by rw [hk5]; rfl) (by decide) ?_
                  refine lv_aload_n (pc := 148) hx hb dX2_findBounds_148 rfl (lv_at hl 3 rfl) ?_
                  refine lv_iload_n (pc := 149) hx hb dX2_findBounds_149 rfl (lv_at hl 4 rfl) ?_
                  refine lv_iload (pc := 150) hx hb dX2_findBounds_150 (lv_at hl 0 rfl) ?_
                  refine lv_ineg (pc := 152) hx hb dX2_findBounds_152 ?_
                  refine lv_iload (pc := 153) hx hb dX2_findBounds_153 (lv_at hl 1 rfl) ?_
                  refine lv_ineg (pc := 155) hx hb dX2_findBounds_155 ?_
                  refine r_cVV (pc := 156) (rest := []) (As := [.int a1, .int (-r84), .int (-r72)]) C hl.1 hP hS (k_X2_setBounds l G hC h0 hw) h0 rfl rfl mw_570 mw_572 mw_18 mw_62 mw_573 ⟨rfl, rfl⟩ hd_X2_setBounds rfl rfl ⟨Nat.le_of_ble_eq_true rfl, Nat.le_of_ble_eq_true rfl⟩ (Nat.le_of_ble_eq_true rfl) ⟨Nat.zero_le _, Nat.zero_le _⟩ dX2_findBounds_156 (fun M156 H locs hw hP hS => ?_)
                  refine lv_goto (pc := 159) (tgt := 253) hx hb dX2_findBounds_159 (by decide) ?_
                  exact r_vret (pc := 253) C hP hS hw dX2_findBounds_253
                · replace hw := if_f hk5 hw
                  refine lv_lookup (pc := 90) (tgt := 230) (off := 140) hx hb dX2_findBounds_90 (by decide) (by show Op.lookupswitch.offset [(37, 84), (42, 123), (43, 105), (45, 105), (121, 72), (126, 58)] 140 _ = _; rw [lv_osw (a := 37) hk0 rfl, lv_osw (a := 42) hk1 rfl, lv_osw (a := 43) hk2 rfl, lv_osw (a := 45) hk3 rfl, lv_osw (a := 121) hk4 rfl, lv_osw (a := 126) hk5 rfl]; rfl) (by decide) ?_
                  refine lv_aload_n (pc := 230) hx hb dX2_findBounds_230 rfl (lv_at hl 3 rfl) ?_
                  refine lv_iload_n (pc := 231) hx hb dX2_findBounds_231 rfl (lv_at hl 4 rfl) ?_
                  refine lv_aload_n (pc := 232) hx hb dX2_findBounds_232 rfl (lv_at hl 3 rfl) ?_
                  refine gf_241 (pc := 233) C hP h0 dX2_findBounds_233 ?_
                  refine gf_192 (pc := 236) C hP (cl_20_3 hC h0) dX2_findBounds_236 ?_
                  refine lv_iload_n (pc := 239) hx hb dX2_findBounds_239 rfl (lv_at hl 4 rfl) ?_
                  refine r_ialdK (pc := 240) (n := 60) (k := a1.toNatClampNeg) C hP (cl_11_4 hC (cl_20_3 hC h0)) (fun _ _ _ _ => rfl) hw.1 rfl dX2_findBounds_240 ?_
                  replace hw := hw.2
                  refine lv_aload_n (pc := 241) hx hb dX2_findBounds_241 rfl (lv_at hl 3 rfl) ?_
                  refine gf_241 (pc := 242) C hP h0 dX2_findBounds_242 ?_
                  refine gf_192 (pc := 245) C hP (cl_20_3 hC h0) dX2_findBounds_245 ?_
                  refine lv_iload_n (pc := 248) hx hb dX2_findBounds_248 rfl (lv_at hl 4 rfl) ?_
                  refine r_ialdK (pc := 249) (n := 60) (k := a1.toNatClampNeg) C hP (cl_11_4 hC (cl_20_3 hC h0)) (fun _ _ _ _ => rfl) hw.1 rfl dX2_findBounds_249 ?_
                  replace hw := hw.2
                  refine r_cVV (pc := 250) (rest := []) (As := [.int a1, .int (M84.1 (15, 0, 0, 0) a1.toNatClampNeg), .int (M84.1 (15, 0, 0, 0) a1.toNatClampNeg)]) C hl.1 hP hS (k_X2_setBounds l G hC h0 hw) h0 rfl rfl mw_570 mw_572 mw_18 mw_62 mw_573 ⟨rfl, rfl⟩ hd_X2_setBounds rfl rfl ⟨Nat.le_of_ble_eq_true rfl, Nat.le_of_ble_eq_true rfl⟩ (Nat.le_of_ble_eq_true rfl) ⟨Nat.zero_le _, Nat.zero_le _⟩ dX2_findBounds_250 (fun M250 H locs hw hP hS => ?_)
                  exact r_vret (pc := 253) C hP hS hw dX2_findBounds_253
    · replace hw := if_f h hw
      refine lv_aload_n (pc := 38) hx hb dX2_findBounds_38 rfl (lv_at hl 3 rfl) ?_
      refine gf_143 (pc := 39) C hP h2 dX2_findBounds_39 ?_
      refine lv_iload_n (pc := 42) hx hb dX2_findBounds_42 rfl (lv_at hl 0 rfl) ?_
      refine lv_bipush (pc := 43) (v := (97 : Int32)) hx hb dX2_findBounds_43 (by decide) ?_
      refine lv_isub (pc := 45) hx hb dX2_findBounds_45 ?_
      refine r_aald6 (pc := 46) C hP (cl_3_2 hC h2) hw.1 dX2_findBounds_46 ?_
      have hi46 := in_lt hw.1
      replace hw := hw.2
      refine lv_astore (pc := 47) (lv' := [(4, .ref (ad (7, s2, b2, (x3_9 - (97 : Int32)).toNatClampNeg))), (3, .int x3_9), (0, .ref (ad (20, 0, 0, 0))), (1, .int a1), (2, .ref (ad (3, s2, b2, 0)))]) hx hb dX2_findBounds_47 hl (by decide) rfl (fun ls hl => ?_)
      refine lv_aload_n (pc := 49) hx hb dX2_findBounds_49 rfl (lv_at hl 2 rfl) ?_
      refine lv_iload_n (pc := 50) hx hb dX2_findBounds_50 rfl (lv_at hl 3 rfl) ?_
      refine lv_aload (pc := 51) hx hb dX2_findBounds_51 (lv_at hl 0 rfl) ?_
      refine gf_105 (pc := 53) C hP (cl_6_e hC (cl_3_2 hC h2) hi46) dX2_findBounds_53 ?_
      refine lv_aload (pc := 56) hx hb dX2_findBounds_56 (lv_at hl 0 rfl) ?_
      refine gf_108 (pc := 58) C hP (cl_6_e hC (cl_3_2 hC h2) hi46) dX2_findBounds_58 ?_
      refine r_cVV (pc := 61) (rest := []) (As := [.int a1, .int (M32.1 (7, s2, b2, (x3_9 - (97 : Int32)).toNatClampNeg) 0), .int (M32.1 (7, s2, b2, (x3_9 - (97 : Int32)).toNatClampNeg) 1)]) C hl.1 hP hS (k_X2_setBounds l G hC h0 hw) h0 rfl rfl mw_570 mw_572 mw_18 mw_62 mw_573 ⟨rfl, rfl⟩ hd_X2_setBounds rfl rfl ⟨Nat.le_of_ble_eq_true rfl, Nat.le_of_ble_eq_true rfl⟩ (Nat.le_of_ble_eq_true rfl) ⟨Nat.zero_le _, Nat.zero_le _⟩ dX2_findBounds_61 (fun M61 H locs hw hP hS => ?_)
      exact r_vret (pc := 64) C hP hS hw dX2_findBounds_64
  · replace hw := if_t h hw
    refine lv_aload_n (pc := 21) hx hb dX2_findBounds_21 rfl (lv_at hl 1 rfl) ?_
    refine lv_iload_n (pc := 22) hx hb dX2_findBounds_22 rfl (lv_at hl 2 rfl) ?_
    refine lv_ldc (pc := 23) (own := RX2) (v := (-2000000 : Int32)) hx hb hown (hts _ mw_569) dX2_findBounds_23 ?_
    refine lv_ldc (pc := 25) (own := RX2) (v := (-2000000 : Int32)) hx hb hown (hts _ mw_569) dX2_findBounds_25 ?_
    refine r_cVV (pc := 27) (rest := []) (As := [.int a1, .int (-2000000 : Int32), .int (-2000000 : Int32)]) C hl.1 hP hS (k_X2_setBounds l G hC h0 hw) h0 rfl rfl mw_570 mw_572 mw_18 mw_62 mw_573 ⟨rfl, rfl⟩ hd_X2_setBounds rfl rfl ⟨Nat.le_of_ble_eq_true rfl, Nat.le_of_ble_eq_true rfl⟩ (Nat.le_of_ble_eq_true rfl) ⟨Nat.zero_le _, Nat.zero_le _⟩ dX2_findBounds_27 (fun M27 H locs hw hP hS => ?_)
    exact r_vret (pc := 30) C hP hS hw dX2_findBounds_30
end
theorem k_X2_findBounds (l : Launch) (G : GG) {I : ix → Prop} {ad : ix → Nat} (hC : clo I) {a1 : Int32} {s2 : Nat} {b2 : Nat} (h0 : I (20, 0, 0, 0)) (h2 : I (3, s2, b2, 0)) {Q : Mem → Prop} {M : Mem} (hw : w_X2_findBounds a1 s2 b2 Q M) : Met l yX2_findBounds (wW yX2_findBounds cX2_findBounds 6 none) rm_X2_findBounds (va_Pc [.ref (ad (20, 0, 0, 0)), .int a1, .ref (ad (3, s2, b2, 0))] (fun U => wd G I ad M U.heap ∧ wK G U)) (qV G I ad Q) 0 0 (fA I ad) := met_of (by decide +kernel) (Nat.le_of_ble_eq_true rfl) (fun p e s m below meth c C hP hS ls hl => j_X2_findBounds_0 C hC h0 h2 _ _ _ _ hw hP hS hl)
section
variable {p : Program} {l : Launch} {e : Env} {s : State} {m : MethodId} {args : Array Value} {below : List Frame} {meth : Method} {c : Code} 
variable  {G : GG} {I : ix → Prop} {ad : ix → Nat}
set_option maxHeartbeats 4000000 in
set_option maxRecDepth 100000 in
theorem j_X2_comparedChances_158 {a1 : Int32} {a2 : Int32} {a3 : Int32} (C : cx p s m args meth c cX2_comparedChances 14 (some .int) RX2 G) (hC : clo I) (h0 : I (20, 0, 0, 0)) {Q : Int32 → Mem → Prop} : ∀ (x6 : Int32) (x8 : Int32) (x9 : Int32) (x11 : Int32) (t0 : Int32) (M : Mem) (H : Heap) (locs : List Loc) (ls : Array Slot), w_X2_comparedChances_158 a1 a2 a3 Q x6 x8 x9 x11 t0 M → wd G I ad M H → va_S (fA I ad) s.heap H locs → lv_has ls 14 [(1, .int a1), (6, .int x6), (8, .int x8), (9, .int x9), (11, .int x11)] → W p l e rm_X2_comparedChances s m args below meth c H locs 0 0 (MQ below (qI G I ad Q) args s 0 0 (fA I ad)) (F0 m 158 ls [.int t0]) := by
  have hx := C.1
  have hb := C.2.1
  have hown := C.2.2.2.1
  have hts := C.2.2.2.2.1
  intro x6 x8 x9 x11 t0 M H locs ls hw hP hS hl
  unfold w_X2_comparedChances_158 at hw
  refine lv_istore (pc := 158) (lv' := [(12, .int t0), (1, .int a1), (6, .int x6), (8, .int x8), (9, .int x9), (11, .int x11)]) hx hb dX2_comparedChances_158 hl (by decide) rfl (fun ls hl => ?_)
  refine lv_iload_n (pc := 160) hx hb dX2_comparedChances_160 rfl (lv_at hl 1 rfl) ?_
  refine lv_bipush (pc := 161) (v := (60 : Int32)) hx hb dX2_comparedChances_161 (by decide) ?_
  refine lv_icmp_ne (pc := 163) (tgt := 181) hx hb dX2_comparedChances_163 (by decide) (fun h => ?_) (fun h => ?_)
  · replace hw := if_f h hw
    refine lv_iload (pc := 181) hx hb dX2_comparedChances_181 (lv_at hl 0 rfl) ?_
    refine lv_if_ne (pc := 183) (tgt := 190) hx hb dX2_comparedChances_183 (by decide) (fun h => ?_) (fun h => ?_)
    · replace hw := if_f h hw
      refine lv_iconst (pc := 190) (v := (0 : Int32)) hx hb dX2_comparedChances_190 (by decide) ?_
      refine lv_istore (pc := 191) (lv' := [(13, .int (0 : Int32)), (12, .int t0), (1, .int a1), (6, .int x6), (8, .int x8), (9, .int x9), (11, .int x11)]) hx hb dX2_comparedChances_191 hl (by decide) rfl (fun ls hl => ?_)
      refine lv_iload (pc := 193) hx hb dX2_comparedChances_193 (lv_at hl 3 rfl) ?_
      refine lv_iload (pc := 195) hx hb dX2_comparedChances_195 (lv_at hl 6 rfl) ?_
      refine lv_if_eq (pc := 197) (tgt := 204) hx hb dX2_comparedChances_197 (by decide) (fun h => ?_) (fun h => ?_)
      · replace hw := if_t h hw
        refine lv_iconst (pc := 204) (v := (0 : Int32)) hx hb dX2_comparedChances_204 (by decide) ?_
        refine lv_ior (pc := 205) hx hb dX2_comparedChances_205 ?_
        refine lv_iload (pc := 206) hx hb dX2_comparedChances_206 (lv_at hl 0 rfl) ?_
        refine lv_if_eq (pc := 208) (tgt := 215) hx hb dX2_comparedChances_208 (by decide) (fun h => ?_) (fun h => ?_)
        · replace hw := if_t h hw
          refine lv_iconst (pc := 215) (v := (0 : Int32)) hx hb dX2_comparedChances_215 (by decide) ?_
          refine lv_ior (pc := 216) hx hb dX2_comparedChances_216 ?_
          exact r_iret (pc := 217) C hP hS hw dX2_comparedChances_217
        · replace hw := if_f h hw
          refine lv_iconst (pc := 211) (v := (2 : Int32)) hx hb dX2_comparedChances_211 (by decide) ?_
          refine lv_goto (pc := 212) (tgt := 216) hx hb dX2_comparedChances_212 (by decide) ?_
          refine lv_ior (pc := 216) hx hb dX2_comparedChances_216 ?_
          exact r_iret (pc := 217) C hP hS hw dX2_comparedChances_217
      · replace hw := if_f h hw
        refine lv_iconst (pc := 200) (v := (1 : Int32)) hx hb dX2_comparedChances_200 (by decide) ?_
        refine lv_goto (pc := 201) (tgt := 205) hx hb dX2_comparedChances_201 (by decide) ?_
        refine lv_ior (pc := 205) hx hb dX2_comparedChances_205 ?_
        refine lv_iload (pc := 206) hx hb dX2_comparedChances_206 (lv_at hl 0 rfl) ?_
        refine lv_if_eq (pc := 208) (tgt := 215) hx hb dX2_comparedChances_208 (by decide) (fun h => ?_) (fun h => ?_)
        · replace hw := if_t h hw
          refine lv_iconst (pc := 215) (v := (0 : Int32)) hx hb dX2_comparedChances_215 (by decide) ?_
          refine lv_ior (pc := 216) hx hb dX2_comparedChances_216 ?_
          exact r_iret (pc := 217) C hP hS hw dX2_comparedChances_217
        · replace hw := if_f h hw
          refine lv_iconst (pc := 211) (v := (2 : Int32)) hx hb dX2_comparedChances_211 (by decide) ?_
          refine lv_goto (pc := 212) (tgt := 216) hx hb dX2_comparedChances_212 (by decide) ?_
          refine lv_ior (pc := 216) hx hb dX2_comparedChances_216 ?_
          exact r_iret (pc := 217) C hP hS hw dX2_comparedChances_217
    · replace hw := if_t h hw
      refine lv_iconst (pc := 186) (v := (1 : Int32)) hx hb dX2_comparedChances_186 (by decide) ?_
      refine lv_goto (pc := 187) (tgt := 191) hx hb dX2_comparedChances_187 (by decide) ?_
      refine lv_istore (pc := 191) (lv' := [(13, .int (1 : Int32)), (12, .int t0), (1, .int a1), (6, .int x6), (8, .int x8), (9, .int x9), (11, .int x11)]) hx hb dX2_comparedChances_191 hl (by decide) rfl (fun ls hl => ?_)
      refine lv_iload (pc := 193) hx hb dX2_comparedChances_193 (lv_at hl 3 rfl) ?_
      refine lv_iload (pc := 195) hx hb dX2_comparedChances_195 (lv_at hl 6 rfl) ?_
      refine lv_if_eq (pc := 197) (tgt := 204) hx hb dX2_comparedChances_197 (by decide) (fun h => ?_) (fun h => ?_)
      · replace hw := if_t h hw
        refine lv_iconst (pc := 204) (v := (0 : Int32)) hx hb dX2_comparedChances_204 (by decide) ?_
        refine lv_ior (pc := 205) hx hb dX2_comparedChances_205 ?_
        refine lv_iload (pc := 206) hx hb dX2_comparedChances_206 (lv_at hl 0 rfl) ?_
        refine lv_if_eq (pc := 208) (tgt := 215) hx hb dX2_comparedChances_208 (by decide) (fun h => ?_) (fun h => ?_)
        · replace hw := if_t h hw
          refine lv_iconst (pc := 215) (v := (0 : Int32)) hx hb dX2_comparedChances_215 (by decide) ?_
          refine lv_ior (pc := 216) hx hb dX2_comparedChances_216 ?_
          exact r_iret (pc := 217) C hP hS hw dX2_comparedChances_217
        · replace hw := if_f h hw
          refine lv_iconst (pc := 211) (v := (2 : Int32)) hx hb dX2_comparedChances_211 (by decide) ?_
          refine lv_goto (pc := 212) (tgt := 216) hx hb dX2_comparedChances_212 (by decide) ?_
          refine lv_ior (pc := 216) hx hb dX2_comparedChances_216 ?_
          exact r_iret (pc := 217) C hP hS hw dX2_comparedChances_217
      · replace hw := if_f h hw
        refine lv_iconst (pc := 200) (v := (1 : Int32)) hx hb dX2_comparedChances_200 (by decide) ?_
        refine lv_goto (pc := 201) (tgt := 205) hx hb dX2_comparedChances_201 (by decide) ?_
        refine lv_ior (pc := 205) hx hb dX2_comparedChances_205 ?_
        refine lv_iload (pc := 206) hx hb dX2_comparedChances_206 (lv_at hl 0 rfl) ?_
        refine lv_if_eq (pc := 208) (tgt := 215) hx hb dX2_comparedChances_208 (by decide) (fun h => ?_) (fun h => ?_)
        · replace hw := if_t h hw
          refine lv_iconst (pc := 215) (v := (0 : Int32)) hx hb dX2_comparedChances_215 (by decide) ?_
          refine lv_ior (pc := 216) hx hb dX2_comparedChances_216 ?_
          exact r_iret (pc := 217) C hP hS hw dX2_comparedChances_217
        · replace hw := if_f h hw
          refine lv_iconst (pc := 211) (v := (2 : Int32)) hx hb dX2_comparedChances_211 (by decide) ?_
          refine lv_goto (pc := 212) (tgt := 216) hx hb dX2_comparedChances_212 (by decide) ?_
          refine lv_ior (pc := 216) hx hb dX2_comparedChances_216 ?_
          exact r_iret (pc := 217) C hP hS hw dX2_comparedChances_217
  · replace hw := if_t h hw
    refine lv_iload (pc := 166) hx hb dX2_comparedChances_166 (lv_at hl 3 rfl) ?_
    refine lv_iload (pc := 168) hx hb dX2_comparedChances_168 (lv_at hl 4 rfl) ?_
    refine lv_icmp_lt (pc := 170) (tgt := 177) hx hb dX2_comparedChances_170 (by decide) (fun h => ?_) (fun h => ?_)
    · replace hw := if_t h hw
      refine lv_iconst (pc := 177) (v := (0 : Int32)) hx hb dX2_comparedChances_177 (by decide) ?_
      refine lv_goto (pc := 178) (tgt := 191) hx hb dX2_comparedChances_178 (by decide) ?_
      refine lv_istore (pc := 191) (lv' := [(13, .int (0 : Int32)), (12, .int t0), (1, .int a1), (6, .int x6), (8, .int x8), (9, .int x9), (11, .int x11)]) hx hb dX2_comparedChances_191 hl (by decide) rfl (fun ls hl => ?_)
      refine lv_iload (pc := 193) hx hb dX2_comparedChances_193 (lv_at hl 3 rfl) ?_
      refine lv_iload (pc := 195) hx hb dX2_comparedChances_195 (lv_at hl 6 rfl) ?_
      refine lv_if_eq (pc := 197) (tgt := 204) hx hb dX2_comparedChances_197 (by decide) (fun h => ?_) (fun h => ?_)
      · replace hw := if_t h hw
        refine lv_iconst (pc := 204) (v := (0 : Int32)) hx hb dX2_comparedChances_204 (by decide) ?_
        refine lv_ior (pc := 205) hx hb dX2_comparedChances_205 ?_
        refine lv_iload (pc := 206) hx hb dX2_comparedChances_206 (lv_at hl 0 rfl) ?_
        refine lv_if_eq (pc := 208) (tgt := 215) hx hb dX2_comparedChances_208 (by decide) (fun h => ?_) (fun h => ?_)
        · replace hw := if_t h hw
          refine lv_iconst (pc := 215) (v := (0 : Int32)) hx hb dX2_comparedChances_215 (by decide) ?_
          refine lv_ior (pc := 216) hx hb dX2_comparedChances_216 ?_
          exact r_iret (pc := 217) C hP hS hw dX2_comparedChances_217
        · replace hw := if_f h hw
          refine lv_iconst (pc := 211) (v := (2 : Int32)) hx hb dX2_comparedChances_211 (by decide) ?_
          refine lv_goto (pc := 212) (tgt := 216) hx hb dX2_comparedChances_212 (by decide) ?_
          refine lv_ior (pc := 216) hx hb dX2_comparedChances_216 ?_
          exact r_iret (pc := 217) C hP hS hw dX2_comparedChances_217
      · replace hw := if_f h hw
        refine lv_iconst (pc := 200) (v := (1 : Int32)) hx hb dX2_comparedChances_200 (by decide) ?_
        refine lv_goto (pc := 201) (tgt := 205) hx hb dX2_comparedChances_201 (by decide) ?_
        refine lv_ior (pc := 205) hx hb dX2_comparedChances_205 ?_
        refine lv_iload (pc := 206) hx hb dX2_comparedChances_206 (lv_at hl 0 rfl) ?_
        refine lv_if_eq (pc := 208) (tgt := 215) hx hb dX2_comparedChances_208 (by decide) (fun h => ?_) (fun h => ?_)
        · replace hw := if_t h hw
          refine lv_iconst (pc := 215) (v := (0 : Int32)) hx hb dX2_comparedChances_215 (by decide) ?_
          refine lv_ior (pc := 216) hx hb dX2_comparedChances_216 ?_
          exact r_iret (pc := 217) C hP hS hw dX2_comparedChances_217
        · replace hw := if_f h hw
          refine lv_iconst (pc := 211) (v := (2 : Int32)) hx hb dX2_comparedChances_211 (by decide) ?_
          refine lv_goto (pc := 212) (tgt := 216) hx hb dX2_comparedChances_212 (by decide) ?_
          refine lv_ior (pc := 216) hx hb dX2_comparedChances_216 ?_
          exact r_iret (pc := 217) C hP hS hw dX2_comparedChances_217
    · replace hw := if_f h hw
      refine lv_iconst (pc := 173) (v := (1 : Int32)) hx hb dX2_comparedChances_173 (by decide) ?_
      refine lv_goto (pc := 174) (tgt := 191) hx hb dX2_comparedChances_174 (by decide) ?_
      refine lv_istore (pc := 191) (lv' := [(13, .int (1 : Int32)), (12, .int t0), (1, .int a1), (6, .int x6), (8, .int x8), (9, .int x9), (11, .int x11)]) hx hb dX2_comparedChances_191 hl (by decide) rfl (fun ls hl => ?_)
      refine lv_iload (pc := 193) hx hb dX2_comparedChances_193 (lv_at hl 3 rfl) ?_
      refine lv_iload (pc := 195) hx hb dX2_comparedChances_195 (lv_at hl 6 rfl) ?_
      refine lv_if_eq (pc := 197) (tgt := 204) hx hb dX2_comparedChances_197 (by decide) (fun h => ?_) (fun h => ?_)
      · replace hw := if_t h hw
        refine lv_iconst (pc := 204) (v := (0 : Int32)) hx hb dX2_comparedChances_204 (by decide) ?_
        refine lv_ior (pc := 205) hx hb dX2_comparedChances_205 ?_
        refine lv_iload (pc := 206) hx hb dX2_comparedChances_206 (lv_at hl 0 rfl) ?_
        refine lv_if_eq (pc := 208) (tgt := 215) hx hb dX2_comparedChances_208 (by decide) (fun h => ?_) (fun h => ?_)
        · replace hw := if_t h hw
          refine lv_iconst (pc := 215) (v := (0 : Int32)) hx hb dX2_comparedChances_215 (by decide) ?_
          refine lv_ior (pc := 216) hx hb dX2_comparedChances_216 ?_
          exact r_iret (pc := 217) C hP hS hw dX2_comparedChances_217
        · replace hw := if_f h hw
          refine lv_iconst (pc := 211) (v := (2 : Int32)) hx hb dX2_comparedChances_211 (by decide) ?_
          refine lv_goto (pc := 212) (tgt := 216) hx hb dX2_comparedChances_212 (by decide) ?_
          refine lv_ior (pc := 216) hx hb dX2_comparedChances_216 ?_
          exact r_iret (pc := 217) C hP hS hw dX2_comparedChances_217
      · replace hw := if_f h hw
        refine lv_iconst (pc := 200) (v := (1 : Int32)) hx hb dX2_comparedChances_200 (by decide) ?_
        refine lv_goto (pc := 201) (tgt := 205) hx hb dX2_comparedChances_201 (by decide) ?_
        refine lv_ior (pc := 205) hx hb dX2_comparedChances_205 ?_
        refine lv_iload (pc := 206) hx hb dX2_comparedChances_206 (lv_at hl 0 rfl) ?_
        refine lv_if_eq (pc := 208) (tgt := 215) hx hb dX2_comparedChances_208 (by decide) (fun h => ?_) (fun h => ?_)
        · replace hw := if_t h hw
          refine lv_iconst (pc := 215) (v := (0 : Int32)) hx hb dX2_comparedChances_215 (by decide) ?_
          refine lv_ior (pc := 216) hx hb dX2_comparedChances_216 ?_
          exact r_iret (pc := 217) C hP hS hw dX2_comparedChances_217
        · replace hw := if_f h hw
          refine lv_iconst (pc := 211) (v := (2 : Int32)) hx hb dX2_comparedChances_211 (by decide) ?_
          refine lv_goto (pc := 212) (tgt := 216) hx hb dX2_comparedChances_212 (by decide) ?_
          refine lv_ior (pc := 216) hx hb dX2_comparedChances_216 ?_
          exact r_iret (pc := 217) C hP hS hw dX2_comparedChances_217
set_option maxHeartbeats 4000000 in
set_option maxRecDepth 100000 in
theorem j_X2_comparedChances_157 {a1 : Int32} {a2 : Int32} {a3 : Int32} (C : cx p s m args meth c cX2_comparedChances 14 (some .int) RX2 G) (hC : clo I) (h0 : I (20, 0, 0, 0)) {Q : Int32 → Mem → Prop} : ∀ (x6 : Int32) (x8 : Int32) (x9 : Int32) (x11 : Int32) (M : Mem) (H : Heap) (locs : List Loc) (ls : Array Slot), w_X2_comparedChances_157 a1 a2 a3 Q x6 x8 x9 x11 M → wd G I ad M H → va_S (fA I ad) s.heap H locs → lv_has ls 14 [(1, .int a1), (6, .int x6), (8, .int x8), (9, .int x9), (11, .int x11)] → W p l e rm_X2_comparedChances s m args below meth c H locs 0 0 (MQ below (qI G I ad Q) args s 0 0 (fA I ad)) (F0 m 157 ls []) := by
  have hx := C.1
  have hb := C.2.1
  have hown := C.2.2.2.1
  have hts := C.2.2.2.2.1
  intro x6 x8 x9 x11 M H locs ls hw hP hS hl
  unfold w_X2_comparedChances_157 at hw
  refine lv_iconst (pc := 157) (v := (0 : Int32)) hx hb dX2_comparedChances_157 (by decide) ?_
  exact j_X2_comparedChances_158 C hC h0 x6 x8 x9 x11 (0 : Int32) M _ _ _ hw hP hS (lv_sub hl [0, 1, 2, 3, 4] rfl)
set_option maxHeartbeats 4000000 in
set_option maxRecDepth 100000 in
theorem j_X2_comparedChances_130 {a1 : Int32} {a2 : Int32} {a3 : Int32} (C : cx p s m args meth c cX2_comparedChances 14 (some .int) RX2 G) (hC : clo I) (h0 : I (20, 0, 0, 0)) {Q : Int32 → Mem → Prop} : ∀ (x6 : Int32) (x7 : Int32) (x8 : Int32) (x9 : Int32) (x10 : Int32) (t0 : Int32) (M : Mem) (H : Heap) (locs : List Loc) (ls : Array Slot), w_X2_comparedChances_130 a1 a2 a3 Q x6 x7 x8 x9 x10 t0 M → wd G I ad M H → va_S (fA I ad) s.heap H locs → lv_has ls 14 [(1, .int a1), (6, .int x6), (7, .int x7), (8, .int x8), (9, .int x9), (10, .int x10)] → W p l e rm_X2_comparedChances s m args below meth c H locs 0 0 (MQ below (qI G I ad Q) args s 0 0 (fA I ad)) (F0 m 130 ls [.int t0]) := by
  have hx := C.1
  have hb := C.2.1
  have hown := C.2.2.2.1
  have hts := C.2.2.2.2.1
  intro x6 x7 x8 x9 x10 t0 M H locs ls hw hP hS hl
  unfold w_X2_comparedChances_130 at hw
  refine lv_istore (pc := 130) (lv' := [(11, .int t0), (1, .int a1), (6, .int x6), (7, .int x7), (8, .int x8), (9, .int x9), (10, .int x10)]) hx hb dX2_comparedChances_130 hl (by decide) rfl (fun ls hl => ?_)
  refine lv_iload (pc := 132) hx hb dX2_comparedChances_132 (lv_at hl 3 rfl) ?_
  refine lv_iload (pc := 134) hx hb dX2_comparedChances_134 (lv_at hl 4 rfl) ?_
  refine lv_icmp_ne (pc := 136) (tgt := 157) hx hb dX2_comparedChances_136 (by decide) (fun h => ?_) (fun h => ?_)
  · replace hw := if_f h hw
    exact j_X2_comparedChances_157 C hC h0 x6 x8 x9 t0 M _ _ _ hw hP hS (lv_sub hl [1, 2, 4, 5, 0] rfl)
  · replace hw := if_t h hw
    refine lv_iload (pc := 139) hx hb dX2_comparedChances_139 (lv_at hl 3 rfl) ?_
    refine lv_iload (pc := 141) hx hb dX2_comparedChances_141 (lv_at hl 5 rfl) ?_
    refine lv_icmp_ne (pc := 143) (tgt := 157) hx hb dX2_comparedChances_143 (by decide) (fun h => ?_) (fun h => ?_)
    · replace hw := if_f h hw
      exact j_X2_comparedChances_157 C hC h0 x6 x8 x9 t0 M _ _ _ hw hP hS (lv_sub hl [1, 2, 4, 5, 0] rfl)
    · replace hw := if_t h hw
      refine lv_iload (pc := 146) hx hb dX2_comparedChances_146 (lv_at hl 3 rfl) ?_
      refine lv_iload (pc := 148) hx hb dX2_comparedChances_148 (lv_at hl 6 rfl) ?_
      refine lv_icmp_ne (pc := 150) (tgt := 157) hx hb dX2_comparedChances_150 (by decide) (fun h => ?_) (fun h => ?_)
      · replace hw := if_f h hw
        exact j_X2_comparedChances_157 C hC h0 x6 x8 x9 t0 M _ _ _ hw hP hS (lv_sub hl [1, 2, 4, 5, 0] rfl)
      · replace hw := if_t h hw
        refine lv_iconst (pc := 153) (v := (1 : Int32)) hx hb dX2_comparedChances_153 (by decide) ?_
        refine lv_goto (pc := 154) (tgt := 158) hx hb dX2_comparedChances_154 (by decide) ?_
        exact j_X2_comparedChances_158 C hC h0 x6 x8 x9 t0 (1 : Int32) M _ _ _ hw hP hS (lv_sub hl [1, 2, 4, 5, 0] rfl)
set_option maxHeartbeats 4000000 in
set_option maxRecDepth 100000 in
theorem j_X2_comparedChances_129 {a1 : Int32} {a2 : Int32} {a3 : Int32} (C : cx p s m args meth c cX2_comparedChances 14 (some .int) RX2 G) (hC : clo I) (h0 : I (20, 0, 0, 0)) {Q : Int32 → Mem → Prop} : ∀ (x6 : Int32) (x7 : Int32) (x8 : Int32) (x9 : Int32) (x10 : Int32) (M : Mem) (H : Heap) (locs : List Loc) (ls : Array Slot), w_X2_comparedChances_129 a1 a2 a3 Q x6 x7 x8 x9 x10 M → wd G I ad M H → va_S (fA I ad) s.heap H locs → lv_has ls 14 [(1, .int a1), (6, .int x6), (7, .int x7), (8, .int x8), (9, .int x9), (10, .int x10)] → W p l e rm_X2_comparedChances s m args below meth c H locs 0 0 (MQ below (qI G I ad Q) args s 0 0 (fA I ad)) (F0 m 129 ls []) := by
  have hx := C.1
  have hb := C.2.1
  have hown := C.2.2.2.1
  have hts := C.2.2.2.2.1
  intro x6 x7 x8 x9 x10 M H locs ls hw hP hS hl
  unfold w_X2_comparedChances_129 at hw
  refine lv_iconst (pc := 129) (v := (0 : Int32)) hx hb dX2_comparedChances_129 (by decide) ?_
  exact j_X2_comparedChances_130 C hC h0 x6 x7 x8 x9 x10 (0 : Int32) M _ _ _ hw hP hS (lv_sub hl [0, 1, 2, 3, 4, 5] rfl)
set_option maxHeartbeats 4000000 in
set_option maxRecDepth 100000 in
theorem j_X2_comparedChances_35 {a1 : Int32} {a2 : Int32} {a3 : Int32} (C : cx p s m args meth c cX2_comparedChances 14 (some .int) RX2 G) (hC : clo I) (h0 : I (20, 0, 0, 0)) {Q : Int32 → Mem → Prop} : ∀ (x4 : Int32) (x5 : Int32) (t0 : Int32) (M : Mem) (H : Heap) (locs : List Loc) (ls : Array Slot), w_X2_comparedChances_35 a1 a2 a3 Q x4 x5 t0 M → wd G I ad M H → va_S (fA I ad) s.heap H locs → lv_has ls 14 [(0, .ref (ad (20, 0, 0, 0))), (1, .int a1), (2, .int a2), (3, .int a3), (4, .int x4), (5, .int x5)] → W p l e rm_X2_comparedChances s m args below meth c H locs 0 0 (MQ below (qI G I ad Q) args s 0 0 (fA I ad)) (F0 m 35 ls [.int t0]) := by
  have hx := C.1
  have hb := C.2.1
  have hown := C.2.2.2.1
  have hts := C.2.2.2.2.1
  intro x4 x5 t0 M H locs ls hw hP hS hl
  unfold w_X2_comparedChances_35 at hw
  refine lv_istore (pc := 35) (lv' := [(6, .int t0), (0, .ref (ad (20, 0, 0, 0))), (1, .int a1), (2, .int a2), (3, .int a3), (4, .int x4), (5, .int x5)]) hx hb dX2_comparedChances_35 hl (by decide) rfl (fun ls hl => ?_)
  refine lv_iload (pc := 37) hx hb dX2_comparedChances_37 (lv_at hl 5 rfl) ?_
  refine lv_iload (pc := 39) hx hb dX2_comparedChances_39 (lv_at hl 6 rfl) ?_
  refine lv_iand (pc := 41) hx hb dX2_comparedChances_41 ?_
  refine lv_iconst (pc := 42) (v := (1 : Int32)) hx hb dX2_comparedChances_42 (by decide) ?_
  refine lv_iand (pc := 43) hx hb dX2_comparedChances_43 ?_
  refine lv_if_ne (pc := 44) (tgt := 50) hx hb dX2_comparedChances_44 (by decide) (fun h => ?_) (fun h => ?_)
  · replace hw := if_f h hw
    refine lv_aload_n (pc := 50) hx hb dX2_comparedChances_50 rfl (lv_at hl 1 rfl) ?_
    refine gf_237 (pc := 51) C hP h0 dX2_comparedChances_51 ?_
    refine lv_iload_n (pc := 54) hx hb dX2_comparedChances_54 rfl (lv_at hl 3 rfl) ?_
    refine r_cNI (pc := 55) (rest := []) (As := [.ref (ad (22, 0, 0, 0)), .int a2]) C hl.1 hP hS (k_X8_at l G hC (cl_20_1 hC h0) (fun _ _ _ _ => rfl) hw) (List.mem_of_getElem? (i := 11) rfl) mw_453 mw_56 mw_454 ⟨rfl, rfl⟩ hd_X8_at rfl rfl ⟨Nat.le_of_ble_eq_true rfl, Nat.le_of_ble_eq_true rfl⟩ (Nat.le_of_ble_eq_true rfl) ⟨Nat.zero_le _, Nat.zero_le _⟩ dX2_comparedChances_55 (fun r55 M55 H locs hw hP hS => ?_)
    refine lv_istore (pc := 58) (lv' := [(7, .int r55), (6, .int t0), (0, .ref (ad (20, 0, 0, 0))), (1, .int a1), (2, .int a2), (3, .int a3), (4, .int x4), (5, .int x5)]) hx hb dX2_comparedChances_58 hl (by decide) rfl (fun ls hl => ?_)
    refine lv_aload_n (pc := 60) hx hb dX2_comparedChances_60 rfl (lv_at hl 2 rfl) ?_
    refine gf_239 (pc := 61) C hP h0 dX2_comparedChances_61 ?_
    refine lv_iload_n (pc := 64) hx hb dX2_comparedChances_64 rfl (lv_at hl 4 rfl) ?_
    refine r_cNI (pc := 65) (rest := []) (As := [.ref (ad (23, 0, 0, 0)), .int a2]) C hl.1 hP hS (k_X8_at l G hC (cl_20_2 hC h0) (fun _ _ _ _ => rfl) hw) (List.mem_of_getElem? (i := 11) rfl) mw_453 mw_56 mw_454 ⟨rfl, rfl⟩ hd_X8_at rfl rfl ⟨Nat.le_of_ble_eq_true rfl, Nat.le_of_ble_eq_true rfl⟩ (Nat.le_of_ble_eq_true rfl) ⟨Nat.zero_le _, Nat.zero_le _⟩ dX2_comparedChances_65 (fun r65 M65 H locs hw hP hS => ?_)
    refine lv_istore (pc := 68) (lv' := [(8, .int r65), (7, .int r55), (6, .int t0), (0, .ref (ad (20, 0, 0, 0))), (1, .int a1), (2, .int a2), (3, .int a3), (4, .int x4), (5, .int x5)]) hx hb dX2_comparedChances_68 hl (by decide) rfl (fun ls hl => ?_)
    refine lv_aload_n (pc := 70) hx hb dX2_comparedChances_70 rfl (lv_at hl 3 rfl) ?_
    refine gf_237 (pc := 71) C hP h0 dX2_comparedChances_71 ?_
    refine lv_iload_n (pc := 74) hx hb dX2_comparedChances_74 rfl (lv_at hl 6 rfl) ?_
    refine r_cNI (pc := 75) (rest := []) (As := [.ref (ad (22, 0, 0, 0)), .int a3]) C hl.1 hP hS (k_X8_at l G hC (cl_20_1 hC h0) (fun _ _ _ _ => rfl) hw) (List.mem_of_getElem? (i := 11) rfl) mw_453 mw_56 mw_454 ⟨rfl, rfl⟩ hd_X8_at rfl rfl ⟨Nat.le_of_ble_eq_true rfl, Nat.le_of_ble_eq_true rfl⟩ (Nat.le_of_ble_eq_true rfl) ⟨Nat.zero_le _, Nat.zero_le _⟩ dX2_comparedChances_75 (fun r75 M75 H locs hw hP hS => ?_)
    refine lv_istore (pc := 78) (lv' := [(9, .int r75), (8, .int r65), (7, .int r55), (6, .int t0), (0, .ref (ad (20, 0, 0, 0))), (1, .int a1), (2, .int a2), (3, .int a3), (4, .int x4), (5, .int x5)]) hx hb dX2_comparedChances_78 hl (by decide) rfl (fun ls hl => ?_)
    refine lv_aload_n (pc := 80) hx hb dX2_comparedChances_80 rfl (lv_at hl 4 rfl) ?_
    refine gf_239 (pc := 81) C hP h0 dX2_comparedChances_81 ?_
    refine lv_iload_n (pc := 84) hx hb dX2_comparedChances_84 rfl (lv_at hl 7 rfl) ?_
    refine r_cNI (pc := 85) (rest := []) (As := [.ref (ad (23, 0, 0, 0)), .int a3]) C hl.1 hP hS (k_X8_at l G hC (cl_20_2 hC h0) (fun _ _ _ _ => rfl) hw) (List.mem_of_getElem? (i := 11) rfl) mw_453 mw_56 mw_454 ⟨rfl, rfl⟩ hd_X8_at rfl rfl ⟨Nat.le_of_ble_eq_true rfl, Nat.le_of_ble_eq_true rfl⟩ (Nat.le_of_ble_eq_true rfl) ⟨Nat.zero_le _, Nat.zero_le _⟩ dX2_comparedChances_85 (fun r85 M85 H locs hw hP hS => ?_)
    refine lv_istore (pc := 88) (lv' := [(10, .int r85), (9, .int r75), (8, .int r65), (7, .int r55), (6, .int t0), (0, .ref (ad (20, 0, 0, 0))), (1, .int a1), (2, .int a2), (3, .int a3), (4, .int x4), (5, .int x5)]) hx hb dX2_comparedChances_88 hl (by decide) rfl (fun ls hl => ?_)
    refine lv_iload_n (pc := 90) hx hb dX2_comparedChances_90 rfl (lv_at hl 6 rfl) ?_
    refine lv_bipush (pc := 91) (v := (60 : Int32)) hx hb dX2_comparedChances_91 (by decide) ?_
    refine lv_icmp_ne (pc := 93) (tgt := 111) hx hb dX2_comparedChances_93 (by decide) (fun h => ?_) (fun h => ?_)
    · replace hw := if_f h hw
      refine lv_iload (pc := 111) hx hb dX2_comparedChances_111 (lv_at hl 3 rfl) ?_
      refine lv_iload (pc := 113) hx hb dX2_comparedChances_113 (lv_at hl 0 rfl) ?_
      refine lv_icmp_gt (pc := 115) (tgt := 129) hx hb dX2_comparedChances_115 (by decide) (fun h => ?_) (fun h => ?_)
      · replace hw := if_t h hw
        exact j_X2_comparedChances_129 C hC h0 t0 r55 r65 r75 r85 M85 _ _ _ hw hP hS (lv_sub hl [6, 4, 3, 2, 1, 0] rfl)
      · replace hw := if_f h hw
        refine lv_iload (pc := 118) hx hb dX2_comparedChances_118 (lv_at hl 1 rfl) ?_
        refine lv_iload (pc := 120) hx hb dX2_comparedChances_120 (lv_at hl 2 rfl) ?_
        refine lv_icmp_gt (pc := 122) (tgt := 129) hx hb dX2_comparedChances_122 (by decide) (fun h => ?_) (fun h => ?_)
        · replace hw := if_t h hw
          exact j_X2_comparedChances_129 C hC h0 t0 r55 r65 r75 r85 M85 _ _ _ hw hP hS (lv_sub hl [6, 4, 3, 2, 1, 0] rfl)
        · replace hw := if_f h hw
          refine lv_iconst (pc := 125) (v := (1 : Int32)) hx hb dX2_comparedChances_125 (by decide) ?_
          refine lv_goto (pc := 126) (tgt := 130) hx hb dX2_comparedChances_126 (by decide) ?_
          exact j_X2_comparedChances_130 C hC h0 t0 r55 r65 r75 r85 (1 : Int32) M85 _ _ _ hw hP hS (lv_sub hl [6, 4, 3, 2, 1, 0] rfl)
    · replace hw := if_t h hw
      refine lv_iload (pc := 96) hx hb dX2_comparedChances_96 (lv_at hl 3 rfl) ?_
      refine lv_iload (pc := 98) hx hb dX2_comparedChances_98 (lv_at hl 0 rfl) ?_
      refine lv_icmp_ge (pc := 100) (tgt := 107) hx hb dX2_comparedChances_100 (by decide) (fun h => ?_) (fun h => ?_)
      · replace hw := if_t h hw
        refine lv_iconst (pc := 107) (v := (0 : Int32)) hx hb dX2_comparedChances_107 (by decide) ?_
        refine lv_goto (pc := 108) (tgt := 130) hx hb dX2_comparedChances_108 (by decide) ?_
        exact j_X2_comparedChances_130 C hC h0 t0 r55 r65 r75 r85 (0 : Int32) M85 _ _ _ hw hP hS (lv_sub hl [6, 4, 3, 2, 1, 0] rfl)
      · replace hw := if_f h hw
        refine lv_iconst (pc := 103) (v := (1 : Int32)) hx hb dX2_comparedChances_103 (by decide) ?_
        refine lv_goto (pc := 104) (tgt := 130) hx hb dX2_comparedChances_104 (by decide) ?_
        exact j_X2_comparedChances_130 C hC h0 t0 r55 r65 r75 r85 (1 : Int32) M85 _ _ _ hw hP hS (lv_sub hl [6, 4, 3, 2, 1, 0] rfl)
  · replace hw := if_t h hw
    refine lv_iload (pc := 47) hx hb dX2_comparedChances_47 (lv_at hl 0 rfl) ?_
    exact r_iret (pc := 49) C hP hS hw dX2_comparedChances_49
set_option maxHeartbeats 4000000 in
set_option maxRecDepth 100000 in
theorem j_X2_comparedChances_0 {a1 : Int32} {a2 : Int32} {a3 : Int32} (C : cx p s m args meth c cX2_comparedChances 14 (some .int) RX2 G) (hC : clo I) (h0 : I (20, 0, 0, 0)) {Q : Int32 → Mem → Prop} : ∀ (M : Mem) (H : Heap) (locs : List Loc) (ls : Array Slot), w_X2_comparedChances a1 a2 a3 Q M → wd G I ad M H → va_S (fA I ad) s.heap H locs → lv_has ls 14 [(0, .ref (ad (20, 0, 0, 0))), (1, .int a1), (2, .int a2), (3, .int a3)] → W p l e rm_X2_comparedChances s m args below meth c H locs 0 0 (MQ below (qI G I ad Q) args s 0 0 (fA I ad)) (F0 m 0 ls []) := by
  have hx := C.1
  have hb := C.2.1
  have hown := C.2.2.2.1
  have hts := C.2.2.2.2.1
  intro M H locs ls hw hP hS hl
  unfold w_X2_comparedChances at hw
  refine lv_aload_n (pc := 0) hx hb dX2_comparedChances_0 rfl (lv_at hl 0 rfl) ?_
  refine gf_235 (pc := 1) C hP h0 dX2_comparedChances_1 ?_
  refine lv_iload_n (pc := 4) hx hb dX2_comparedChances_4 rfl (lv_at hl 2 rfl) ?_
  refine r_cNI (pc := 5) (rest := []) (As := [.ref (ad (21, 0, 0, 0)), .int a2]) C hl.1 hP hS (k_X8_at l G hC (cl_20_0 hC h0) (fun _ _ _ _ => rfl) hw) (List.mem_of_getElem? (i := 11) rfl) mw_453 mw_56 mw_454 ⟨rfl, rfl⟩ hd_X8_at rfl rfl ⟨Nat.le_of_ble_eq_true rfl, Nat.le_of_ble_eq_true rfl⟩ (Nat.le_of_ble_eq_true rfl) ⟨Nat.zero_le _, Nat.zero_le _⟩ dX2_comparedChances_5 (fun r5 M5 H locs hw hP hS => ?_)
  refine lv_istore (pc := 8) (lv' := [(4, .int r5), (0, .ref (ad (20, 0, 0, 0))), (1, .int a1), (2, .int a2), (3, .int a3)]) hx hb dX2_comparedChances_8 hl (by decide) rfl (fun ls hl => ?_)
  refine lv_aload_n (pc := 10) hx hb dX2_comparedChances_10 rfl (lv_at hl 1 rfl) ?_
  refine gf_235 (pc := 11) C hP h0 dX2_comparedChances_11 ?_
  refine lv_iload_n (pc := 14) hx hb dX2_comparedChances_14 rfl (lv_at hl 4 rfl) ?_
  refine r_cNI (pc := 15) (rest := []) (As := [.ref (ad (21, 0, 0, 0)), .int a3]) C hl.1 hP hS (k_X8_at l G hC (cl_20_0 hC h0) (fun _ _ _ _ => rfl) hw) (List.mem_of_getElem? (i := 11) rfl) mw_453 mw_56 mw_454 ⟨rfl, rfl⟩ hd_X8_at rfl rfl ⟨Nat.le_of_ble_eq_true rfl, Nat.le_of_ble_eq_true rfl⟩ (Nat.le_of_ble_eq_true rfl) ⟨Nat.zero_le _, Nat.zero_le _⟩ dX2_comparedChances_15 (fun r15 M15 H locs hw hP hS => ?_)
  refine lv_istore (pc := 18) (lv' := [(5, .int r15), (4, .int r5), (0, .ref (ad (20, 0, 0, 0))), (1, .int a1), (2, .int a2), (3, .int a3)]) hx hb dX2_comparedChances_18 hl (by decide) rfl (fun ls hl => ?_)
  refine lv_iload (pc := 20) hx hb dX2_comparedChances_20 (lv_at hl 1 rfl) ?_
  refine lv_iload (pc := 22) hx hb dX2_comparedChances_22 (lv_at hl 0 rfl) ?_
  refine lv_ior (pc := 24) hx hb dX2_comparedChances_24 ?_
  refine lv_iconst (pc := 25) (v := (2 : Int32)) hx hb dX2_comparedChances_25 (by decide) ?_
  refine lv_iand (pc := 26) hx hb dX2_comparedChances_26 ?_
  refine lv_if_eq (pc := 27) (tgt := 34) hx hb dX2_comparedChances_27 (by decide) (fun h => ?_) (fun h => ?_)
  · replace hw := if_t h hw
    refine lv_iconst (pc := 34) (v := (0 : Int32)) hx hb dX2_comparedChances_34 (by decide) ?_
    exact j_X2_comparedChances_35 C hC h0 r5 r15 (0 : Int32) M15 _ _ _ hw hP hS (lv_sub hl [2, 3, 4, 5, 1, 0] rfl)
  · replace hw := if_f h hw
    refine lv_iconst (pc := 30) (v := (4 : Int32)) hx hb dX2_comparedChances_30 (by decide) ?_
    refine lv_goto (pc := 31) (tgt := 35) hx hb dX2_comparedChances_31 (by decide) ?_
    exact j_X2_comparedChances_35 C hC h0 r5 r15 (4 : Int32) M15 _ _ _ hw hP hS (lv_sub hl [2, 3, 4, 5, 1, 0] rfl)
end
theorem k_X2_comparedChances (l : Launch) (G : GG) {I : ix → Prop} {ad : ix → Nat} (hC : clo I) {a1 : Int32} {a2 : Int32} {a3 : Int32} (h0 : I (20, 0, 0, 0)) {Q : Int32 → Mem → Prop} {M : Mem} (hw : w_X2_comparedChances a1 a2 a3 Q M) : Met l yX2_comparedChances (wW yX2_comparedChances cX2_comparedChances 14 (some .int)) rm_X2_comparedChances (va_Pc [.ref (ad (20, 0, 0, 0)), .int a1, .int a2, .int a3] (fun U => wd G I ad M U.heap ∧ wK G U)) (qI G I ad Q) 0 0 (fA I ad) := met_of (by decide +kernel) (Nat.le_of_ble_eq_true rfl) (fun p e s m below meth c C hP hS ls hl => j_X2_comparedChances_0 C hC h0 _ _ _ _ hw hP hS hl)
section
variable {p : Program} {l : Launch} {e : Env} {s : State} {m : MethodId} {args : Array Value} {below : List Frame} {meth : Method} {c : Code} 
variable  {G : GG} {I : ix → Prop} {ad : ix → Nat}
set_option maxHeartbeats 4000000 in
set_option maxRecDepth 100000 in
theorem j_X8_chanceOf_0 {a0 : Int32} (C : cx p s m args meth c cX8_chanceOf 1 (some .int) RX8 G) (hC : clo I) {Q : Int32 → Mem → Prop} : ∀ (M : Mem) (H : Heap) (locs : List Loc) (ls : Array Slot), w_X8_chanceOf a0 Q M → wd G I ad M H → va_S (fA I ad) s.heap H locs → lv_has ls 1 [(0, .int a0)] → W p l e rm_X8_chanceOf s m args below meth c H locs 0 0 (MQ below (qI G I ad Q) args s 0 0 (fA I ad)) (F0 m 0 ls []) := by
  have hx := C.1
  have hb := C.2.1
  have hown := C.2.2.2.1
  have hts := C.2.2.2.2.1
  intro M H locs ls hw hP hS hl
  unfold w_X8_chanceOf at hw
  refine lv_iload_n (pc := 0) hx hb dX8_chanceOf_0 rfl (lv_at hl 0 rfl) ?_
  refine lv_iconst (pc := 1) (v := (2 : Int32)) hx hb dX8_chanceOf_1 (by decide) ?_
  refine lv_icmp_ne (pc := 2) (tgt := 7) hx hb dX8_chanceOf_2 (by decide) (fun h => ?_) (fun h => ?_)
  · replace hw := if_f h hw
    refine lv_iload_n (pc := 7) hx hb dX8_chanceOf_7 rfl (lv_at hl 0 rfl) ?_
    refine lv_iconst (pc := 8) (v := (1 : Int32)) hx hb dX8_chanceOf_8 (by decide) ?_
    refine lv_icmp_ne (pc := 9) (tgt := 16) hx hb dX8_chanceOf_9 (by decide) (fun h => ?_) (fun h => ?_)
    · replace hw := if_f h hw
      refine lv_iconst (pc := 16) (v := (2 : Int32)) hx hb dX8_chanceOf_16 (by decide) ?_
      exact r_iret (pc := 17) C hP hS hw dX8_chanceOf_17
    · replace hw := if_t h hw
      refine lv_iconst (pc := 12) (v := (1 : Int32)) hx hb dX8_chanceOf_12 (by decide) ?_
      refine lv_goto (pc := 13) (tgt := 17) hx hb dX8_chanceOf_13 (by decide) ?_
      exact r_iret (pc := 17) C hP hS hw dX8_chanceOf_17
  · replace hw := if_t h hw
    refine lv_iconst (pc := 5) (v := (4 : Int32)) hx hb dX8_chanceOf_5 (by decide) ?_
    exact r_iret (pc := 6) C hP hS hw dX8_chanceOf_6
end
theorem k_X8_chanceOf (l : Launch) (G : GG) {I : ix → Prop} {ad : ix → Nat} (hC : clo I) {a0 : Int32} {Q : Int32 → Mem → Prop} {M : Mem} (hw : w_X8_chanceOf a0 Q M) : Met l yX8_chanceOf (wW yX8_chanceOf cX8_chanceOf 1 (some .int)) rm_X8_chanceOf (va_Pc [.int a0] (fun U => wd G I ad M U.heap ∧ wK G U)) (qI G I ad Q) 0 0 (fA I ad) := met_of (by decide +kernel) (Nat.le_of_ble_eq_true rfl) (fun p e s m below meth c C hP hS ls hl => j_X8_chanceOf_0 C hC  _ _ _ _ hw hP hS hl)
section
variable {p : Program} {l : Launch} {e : Env} {s : State} {m : MethodId} {args : Array Value} {below : List Frame} {meth : Method} {c : Code} 
variable  {G : GG} {I : ix → Prop} {ad : ix → Nat}
set_option maxHeartbeats 4000000 in
set_option maxRecDepth 100000 in
theorem j_X8_eitherOf_0 {a0 : Int32} {a1 : Int32} (C : cx p s m args meth c cX8_eitherOf 2 (some .int) RX8 G) (hC : clo I) {Q : Int32 → Mem → Prop} : ∀ (M : Mem) (H : Heap) (locs : List Loc) (ls : Array Slot), w_X8_eitherOf a0 a1 Q M → wd G I ad M H → va_S (fA I ad) s.heap H locs → lv_has ls 2 [(0, .int a0), (1, .int a1)] → W p l e rm_X8_eitherOf s m args below meth c H locs 0 0 (MQ below (qI G I ad Q) args s 0 0 (fA I ad)) (F0 m 0 ls []) := by
  have hx := C.1
  have hb := C.2.1
  have hown := C.2.2.2.1
  have hts := C.2.2.2.2.1
  intro M H locs ls hw hP hS hl
  unfold w_X8_eitherOf at hw
  refine lv_iload_n (pc := 0) hx hb dX8_eitherOf_0 rfl (lv_at hl 0 rfl) ?_
  refine lv_iconst (pc := 1) (v := (1 : Int32)) hx hb dX8_eitherOf_1 (by decide) ?_
  refine lv_icmp_eq (pc := 2) (tgt := 10) hx hb dX8_eitherOf_2 (by decide) (fun h => ?_) (fun h => ?_)
  · replace hw := if_t h hw
    refine lv_iconst (pc := 10) (v := (1 : Int32)) hx hb dX8_eitherOf_10 (by decide) ?_
    exact r_iret (pc := 11) C hP hS hw dX8_eitherOf_11
  · replace hw := if_f h hw
    refine lv_iload_n (pc := 5) hx hb dX8_eitherOf_5 rfl (lv_at hl 1 rfl) ?_
    refine lv_iconst (pc := 6) (v := (1 : Int32)) hx hb dX8_eitherOf_6 (by decide) ?_
    refine lv_icmp_ne (pc := 7) (tgt := 12) hx hb dX8_eitherOf_7 (by decide) (fun h => ?_) (fun h => ?_)
    · replace hw := if_f h hw
      refine lv_iload_n (pc := 12) hx hb dX8_eitherOf_12 rfl (lv_at hl 0 rfl) ?_
      refine lv_iconst (pc := 13) (v := (2 : Int32)) hx hb dX8_eitherOf_13 (by decide) ?_
      refine lv_icmp_eq (pc := 14) (tgt := 22) hx hb dX8_eitherOf_14 (by decide) (fun h => ?_) (fun h => ?_)
      · replace hw := if_t h hw
        refine lv_iconst (pc := 22) (v := (2 : Int32)) hx hb dX8_eitherOf_22 (by decide) ?_
        refine lv_goto (pc := 23) (tgt := 27) hx hb dX8_eitherOf_23 (by decide) ?_
        exact r_iret (pc := 27) C hP hS hw dX8_eitherOf_27
      · replace hw := if_f h hw
        refine lv_iload_n (pc := 17) hx hb dX8_eitherOf_17 rfl (lv_at hl 1 rfl) ?_
        refine lv_iconst (pc := 18) (v := (2 : Int32)) hx hb dX8_eitherOf_18 (by decide) ?_
        refine lv_icmp_ne (pc := 19) (tgt := 26) hx hb dX8_eitherOf_19 (by decide) (fun h => ?_) (fun h => ?_)
        · replace hw := if_f h hw
          refine lv_iconst (pc := 26) (v := (0 : Int32)) hx hb dX8_eitherOf_26 (by decide) ?_
          exact r_iret (pc := 27) C hP hS hw dX8_eitherOf_27
        · replace hw := if_t h hw
          refine lv_iconst (pc := 22) (v := (2 : Int32)) hx hb dX8_eitherOf_22 (by decide) ?_
          refine lv_goto (pc := 23) (tgt := 27) hx hb dX8_eitherOf_23 (by decide) ?_
          exact r_iret (pc := 27) C hP hS hw dX8_eitherOf_27
    · replace hw := if_t h hw
      refine lv_iconst (pc := 10) (v := (1 : Int32)) hx hb dX8_eitherOf_10 (by decide) ?_
      exact r_iret (pc := 11) C hP hS hw dX8_eitherOf_11
end
theorem k_X8_eitherOf (l : Launch) (G : GG) {I : ix → Prop} {ad : ix → Nat} (hC : clo I) {a0 : Int32} {a1 : Int32} {Q : Int32 → Mem → Prop} {M : Mem} (hw : w_X8_eitherOf a0 a1 Q M) : Met l yX8_eitherOf (wW yX8_eitherOf cX8_eitherOf 2 (some .int)) rm_X8_eitherOf (va_Pc [.int a0, .int a1] (fun U => wd G I ad M U.heap ∧ wK G U)) (qI G I ad Q) 0 0 (fA I ad) := met_of (by decide +kernel) (Nat.le_of_ble_eq_true rfl) (fun p e s m below meth c C hP hS ls hl => j_X8_eitherOf_0 C hC  _ _ _ _ hw hP hS hl)
section
variable {p : Program} {l : Launch} {e : Env} {s : State} {m : MethodId} {args : Array Value} {below : List Frame} {meth : Method} {c : Code} 
variable  {G : GG} {I : ix → Prop} {ad : ix → Nat}
set_option maxHeartbeats 4000000 in
set_option maxRecDepth 100000 in
theorem j_X8_bothOf_0 {a0 : Int32} {a1 : Int32} (C : cx p s m args meth c cX8_bothOf 2 (some .int) RX8 G) (hC : clo I) {Q : Int32 → Mem → Prop} : ∀ (M : Mem) (H : Heap) (locs : List Loc) (ls : Array Slot), w_X8_bothOf a0 a1 Q M → wd G I ad M H → va_S (fA I ad) s.heap H locs → lv_has ls 2 [(0, .int a0), (1, .int a1)] → W p l e rm_X8_bothOf s m args below meth c H locs 0 0 (MQ below (qI G I ad Q) args s 0 0 (fA I ad)) (F0 m 0 ls []) := by
  have hx := C.1
  have hb := C.2.1
  have hown := C.2.2.2.1
  have hts := C.2.2.2.2.1
  intro M H locs ls hw hP hS hl
  unfold w_X8_bothOf at hw
  refine lv_iload_n (pc := 0) hx hb dX8_bothOf_0 rfl (lv_at hl 0 rfl) ?_
  refine lv_if_eq (pc := 1) (tgt := 8) hx hb dX8_bothOf_1 (by decide) (fun h => ?_) (fun h => ?_)
  · replace hw := if_t h hw
    refine lv_iconst (pc := 8) (v := (0 : Int32)) hx hb dX8_bothOf_8 (by decide) ?_
    exact r_iret (pc := 9) C hP hS hw dX8_bothOf_9
  · replace hw := if_f h hw
    refine lv_iload_n (pc := 4) hx hb dX8_bothOf_4 rfl (lv_at hl 1 rfl) ?_
    refine lv_if_ne (pc := 5) (tgt := 10) hx hb dX8_bothOf_5 (by decide) (fun h => ?_) (fun h => ?_)
    · replace hw := if_f h hw
      refine lv_iload_n (pc := 10) hx hb dX8_bothOf_10 rfl (lv_at hl 0 rfl) ?_
      refine lv_iconst (pc := 11) (v := (2 : Int32)) hx hb dX8_bothOf_11 (by decide) ?_
      refine lv_icmp_eq (pc := 12) (tgt := 20) hx hb dX8_bothOf_12 (by decide) (fun h => ?_) (fun h => ?_)
      · replace hw := if_t h hw
        refine lv_iconst (pc := 20) (v := (2 : Int32)) hx hb dX8_bothOf_20 (by decide) ?_
        refine lv_goto (pc := 21) (tgt := 25) hx hb dX8_bothOf_21 (by decide) ?_
        exact r_iret (pc := 25) C hP hS hw dX8_bothOf_25
      · replace hw := if_f h hw
        refine lv_iload_n (pc := 15) hx hb dX8_bothOf_15 rfl (lv_at hl 1 rfl) ?_
        refine lv_iconst (pc := 16) (v := (2 : Int32)) hx hb dX8_bothOf_16 (by decide) ?_
        refine lv_icmp_ne (pc := 17) (tgt := 24) hx hb dX8_bothOf_17 (by decide) (fun h => ?_) (fun h => ?_)
        · replace hw := if_f h hw
          refine lv_iconst (pc := 24) (v := (1 : Int32)) hx hb dX8_bothOf_24 (by decide) ?_
          exact r_iret (pc := 25) C hP hS hw dX8_bothOf_25
        · replace hw := if_t h hw
          refine lv_iconst (pc := 20) (v := (2 : Int32)) hx hb dX8_bothOf_20 (by decide) ?_
          refine lv_goto (pc := 21) (tgt := 25) hx hb dX8_bothOf_21 (by decide) ?_
          exact r_iret (pc := 25) C hP hS hw dX8_bothOf_25
    · replace hw := if_t h hw
      refine lv_iconst (pc := 8) (v := (0 : Int32)) hx hb dX8_bothOf_8 (by decide) ?_
      exact r_iret (pc := 9) C hP hS hw dX8_bothOf_9
end
theorem k_X8_bothOf (l : Launch) (G : GG) {I : ix → Prop} {ad : ix → Nat} (hC : clo I) {a0 : Int32} {a1 : Int32} {Q : Int32 → Mem → Prop} {M : Mem} (hw : w_X8_bothOf a0 a1 Q M) : Met l yX8_bothOf (wW yX8_bothOf cX8_bothOf 2 (some .int)) rm_X8_bothOf (va_Pc [.int a0, .int a1] (fun U => wd G I ad M U.heap ∧ wK G U)) (qI G I ad Q) 0 0 (fA I ad) := met_of (by decide +kernel) (Nat.le_of_ble_eq_true rfl) (fun p e s m below meth c C hP hS ls hl => j_X8_bothOf_0 C hC  _ _ _ _ hw hP hS hl)
section
variable {p : Program} {l : Launch} {e : Env} {s : State} {m : MethodId} {args : Array Value} {below : List Frame} {meth : Method} {c : Code} 
variable  {G : GG} {I : ix → Prop} {ad : ix → Nat}
set_option maxHeartbeats 4000000 in
set_option maxRecDepth 100000 in
theorem j_X2_joinedChances_14 {a0 : Int32} {a1 : Int32} {a2 : Int32} (C : cx p s m args meth c cX2_joinedChances 6 (some .int) RX2 G) (hC : clo I) {Q : Int32 → Mem → Prop} {B5 : Int32 → Int32 → Mem → Prop} (hB5 : ∀ (x3 : Int32) (x4 : Int32) (M : Mem) (H : Heap) (locs : List Loc) (ls : Array Slot), B5 x3 x4 M → wd G I ad M H → va_S (fA I ad) s.heap H locs → lv_has ls 6 [(0, .int a0), (1, .int a1), (2, .int a2), (3, .int x3), (4, .int x4)] → W p l e rm_X2_joinedChances s m args below meth c H locs 0 0 (MQ below (qI G I ad Q) args s 0 0 (fA I ad)) (F0 m 5 ls [])) : ∀ (n : Nat), ∀ (x3 : Int32) (x4 : Int32) (x5 : Int32) (M : Mem) (H : Heap) (locs : List Loc) (ls : Array Slot), w_X2_joinedChances_14 a0 a1 a2 Q B5 n x3 x4 x5 M → wd G I ad M H → va_S (fA I ad) s.heap H locs → lv_has ls 6 [(0, .int a0), (1, .int a1), (2, .int a2), (3, .int x3), (4, .int x4), (5, .int x5)] → W p l e rm_X2_joinedChances s m args below meth c H locs 0 0 (MQ below (qI G I ad Q) args s 0 0 (fA I ad)) (F0 m 14 ls []) := by
  have hx := C.1
  have hb := C.2.1
  have hown := C.2.2.2.1
  have hts := C.2.2.2.2.1
  intro n
  induction n with
  | zero =>
    intro x3 x4 x5 M H locs ls hw hP hS hl
    rw [w_X2_joinedChances_14] at hw
    exact hw.elim
  | succ n ih =>
    intro x3 x4 x5 M H locs ls hw hP hS hl
    rw [w_X2_joinedChances_14] at hw
    refine lv_iload (pc := 14) hx hb dX2_joinedChances_14 (lv_at hl 5 rfl) ?_
    refine lv_iconst (pc := 16) (v := (2 : Int32)) hx hb dX2_joinedChances_16 (by decide) ?_
    refine lv_icmp_gt (pc := 17) (tgt := 75) hx hb dX2_joinedChances_17 (by decide) (fun h => ?_) (fun h => ?_)
    · replace hw := if_t h hw
      refine lv_iinc (pc := 75) (v := x4 + 1) (lv' := [(4, .int (x4 + 1)), (0, .int a0), (1, .int a1), (2, .int a2), (3, .int x3), (5, .int x5)]) hx hb dX2_joinedChances_75 hl (k := 4) rfl rfl (by decide) rfl (fun ls hl => ?_)
      refine lv_goto (pc := 78) (tgt := 5) hx hb dX2_joinedChances_78 (by decide) ?_
      exact hB5 x3 (x4 + 1) M _ _ _ hw hP hS (lv_sub hl [1, 2, 3, 4, 0] rfl)
    · replace hw := if_f h hw
      refine lv_iload_n (pc := 20) hx hb dX2_joinedChances_20 rfl (lv_at hl 1 rfl) ?_
      refine lv_iload (pc := 21) hx hb dX2_joinedChances_21 (lv_at hl 4 rfl) ?_
      refine r_cNI (pc := 23) (rest := [.int a1]) (As := [.int x4]) C hl.1 hP hS (k_X8_chanceOf l G hC  hw) (List.mem_of_getElem? (i := 13) rfl) mw_550 mw_56 mw_551 ⟨rfl, rfl⟩ hd_X8_chanceOf rfl rfl ⟨Nat.le_of_ble_eq_true rfl, Nat.le_of_ble_eq_true rfl⟩ (Nat.le_of_ble_eq_true rfl) ⟨Nat.zero_le _, Nat.zero_le _⟩ dX2_joinedChances_23 (fun r23 M23 H locs hw hP hS => ?_)
      refine lv_iand (pc := 26) hx hb dX2_joinedChances_26 ?_
      refine lv_if_eq (pc := 27) (tgt := 69) hx hb dX2_joinedChances_27 (by decide) (fun h => ?_) (fun h => ?_)
      · replace hw := if_t h hw
        refine lv_iinc (pc := 69) (v := x5 + 1) (lv' := [(5, .int (x5 + 1)), (0, .int a0), (1, .int a1), (2, .int a2), (3, .int x3), (4, .int x4)]) hx hb dX2_joinedChances_69 hl (k := 5) rfl rfl (by decide) rfl (fun ls hl => ?_)
        refine lv_goto (pc := 72) (tgt := 14) hx hb dX2_joinedChances_72 (by decide) ?_
        exact ih x3 x4 (x5 + 1) M23 _ _ _ hw hP hS (lv_sub hl [1, 2, 3, 4, 5, 0] rfl)
      · replace hw := if_f h hw
        refine lv_iload_n (pc := 30) hx hb dX2_joinedChances_30 rfl (lv_at hl 2 rfl) ?_
        refine lv_iload (pc := 31) hx hb dX2_joinedChances_31 (lv_at hl 5 rfl) ?_
        refine r_cNI (pc := 33) (rest := [.int a2]) (As := [.int x5]) C hl.1 hP hS (k_X8_chanceOf l G hC  hw) (List.mem_of_getElem? (i := 13) rfl) mw_550 mw_56 mw_551 ⟨rfl, rfl⟩ hd_X8_chanceOf rfl rfl ⟨Nat.le_of_ble_eq_true rfl, Nat.le_of_ble_eq_true rfl⟩ (Nat.le_of_ble_eq_true rfl) ⟨Nat.zero_le _, Nat.zero_le _⟩ dX2_joinedChances_33 (fun r33 M33 H locs hw hP hS => ?_)
        refine lv_iand (pc := 36) hx hb dX2_joinedChances_36 ?_
        refine lv_if_eq (pc := 37) (tgt := 69) hx hb dX2_joinedChances_37 (by decide) (fun h => ?_) (fun h => ?_)
        · replace hw := if_t h hw
          refine lv_iinc (pc := 69) (v := x5 + 1) (lv' := [(5, .int (x5 + 1)), (0, .int a0), (1, .int a1), (2, .int a2), (3, .int x3), (4, .int x4)]) hx hb dX2_joinedChances_69 hl (k := 5) rfl rfl (by decide) rfl (fun ls hl => ?_)
          refine lv_goto (pc := 72) (tgt := 14) hx hb dX2_joinedChances_72 (by decide) ?_
          exact ih x3 x4 (x5 + 1) M33 _ _ _ hw hP hS (lv_sub hl [1, 2, 3, 4, 5, 0] rfl)
        · replace hw := if_f h hw
          refine lv_iload_n (pc := 40) hx hb dX2_joinedChances_40 rfl (lv_at hl 3 rfl) ?_
          refine lv_iload_n (pc := 41) hx hb dX2_joinedChances_41 rfl (lv_at hl 0 rfl) ?_
          refine lv_bipush (pc := 42) (v := (38 : Int32)) hx hb dX2_joinedChances_42 (by decide) ?_
          refine lv_icmp_ne (pc := 44) (tgt := 57) hx hb dX2_joinedChances_44 (by decide) (fun h => ?_) (fun h => ?_)
          · replace hw := if_f h hw
            refine lv_iload (pc := 57) hx hb dX2_joinedChances_57 (lv_at hl 4 rfl) ?_
            refine lv_iload (pc := 59) hx hb dX2_joinedChances_59 (lv_at hl 5 rfl) ?_
            refine r_cNI (pc := 61) (rest := [.int x3]) (As := [.int x4, .int x5]) C hl.1 hP hS (k_X8_eitherOf l G hC  hw) (List.mem_of_getElem? (i := 16) rfl) mw_503 mw_56 mw_504 ⟨rfl, rfl⟩ hd_X8_eitherOf rfl rfl ⟨Nat.le_of_ble_eq_true rfl, Nat.le_of_ble_eq_true rfl⟩ (Nat.le_of_ble_eq_true rfl) ⟨Nat.zero_le _, Nat.zero_le _⟩ dX2_joinedChances_61 (fun r61 M61 H locs hw hP hS => ?_)
            refine r_cNI (pc := 64) (rest := [.int x3]) (As := [.int r61]) C hl.1 hP hS (k_X8_chanceOf l G hC  hw) (List.mem_of_getElem? (i := 13) rfl) mw_550 mw_56 mw_551 ⟨rfl, rfl⟩ hd_X8_chanceOf rfl rfl ⟨Nat.le_of_ble_eq_true rfl, Nat.le_of_ble_eq_true rfl⟩ (Nat.le_of_ble_eq_true rfl) ⟨Nat.zero_le _, Nat.zero_le _⟩ dX2_joinedChances_64 (fun r64 M64 H locs hw hP hS => ?_)
            refine lv_ior (pc := 67) hx hb dX2_joinedChances_67 ?_
            refine lv_topi (fun x3_68 ex3_68 => ?_)
            replace hw := hw x3_68 ex3_68
            refine lv_istore_n (pc := 68) (lv' := [(3, .int x3_68), (0, .int a0), (1, .int a1), (2, .int a2), (4, .int x4), (5, .int x5)]) hx hb dX2_joinedChances_68 rfl hl (by decide) rfl (fun ls hl => ?_)
            refine lv_iinc (pc := 69) (v := x5 + 1) (lv' := [(5, .int (x5 + 1)), (3, .int x3_68), (0, .int a0), (1, .int a1), (2, .int a2), (4, .int x4)]) hx hb dX2_joinedChances_69 hl (k := 5) rfl rfl (by decide) rfl (fun ls hl => ?_)
            refine lv_goto (pc := 72) (tgt := 14) hx hb dX2_joinedChances_72 (by decide) ?_
            exact ih x3_68 x4 (x5 + 1) M64 _ _ _ hw hP hS (lv_sub hl [2, 3, 4, 1, 5, 0] rfl)
          · replace hw := if_t h hw
            refine lv_iload (pc := 47) hx hb dX2_joinedChances_47 (lv_at hl 4 rfl) ?_
            refine lv_iload (pc := 49) hx hb dX2_joinedChances_49 (lv_at hl 5 rfl) ?_
            refine r_cNI (pc := 51) (rest := [.int x3]) (As := [.int x4, .int x5]) C hl.1 hP hS (k_X8_bothOf l G hC  hw) (List.mem_of_getElem? (i := 15) rfl) mw_500 mw_56 mw_501 ⟨rfl, rfl⟩ hd_X8_bothOf rfl rfl ⟨Nat.le_of_ble_eq_true rfl, Nat.le_of_ble_eq_true rfl⟩ (Nat.le_of_ble_eq_true rfl) ⟨Nat.zero_le _, Nat.zero_le _⟩ dX2_joinedChances_51 (fun r51 M51 H locs hw hP hS => ?_)
            refine lv_goto (pc := 54) (tgt := 64) hx hb dX2_joinedChances_54 (by decide) ?_
            refine r_cNI (pc := 64) (rest := [.int x3]) (As := [.int r51]) C hl.1 hP hS (k_X8_chanceOf l G hC  hw) (List.mem_of_getElem? (i := 13) rfl) mw_550 mw_56 mw_551 ⟨rfl, rfl⟩ hd_X8_chanceOf rfl rfl ⟨Nat.le_of_ble_eq_true rfl, Nat.le_of_ble_eq_true rfl⟩ (Nat.le_of_ble_eq_true rfl) ⟨Nat.zero_le _, Nat.zero_le _⟩ dX2_joinedChances_64 (fun r64 M64 H locs hw hP hS => ?_)
            refine lv_ior (pc := 67) hx hb dX2_joinedChances_67 ?_
            refine lv_topi (fun x3_68 ex3_68 => ?_)
            replace hw := hw x3_68 ex3_68
            refine lv_istore_n (pc := 68) (lv' := [(3, .int x3_68), (0, .int a0), (1, .int a1), (2, .int a2), (4, .int x4), (5, .int x5)]) hx hb dX2_joinedChances_68 rfl hl (by decide) rfl (fun ls hl => ?_)
            refine lv_iinc (pc := 69) (v := x5 + 1) (lv' := [(5, .int (x5 + 1)), (3, .int x3_68), (0, .int a0), (1, .int a1), (2, .int a2), (4, .int x4)]) hx hb dX2_joinedChances_69 hl (k := 5) rfl rfl (by decide) rfl (fun ls hl => ?_)
            refine lv_goto (pc := 72) (tgt := 14) hx hb dX2_joinedChances_72 (by decide) ?_
            exact ih x3_68 x4 (x5 + 1) M64 _ _ _ hw hP hS (lv_sub hl [2, 3, 4, 1, 5, 0] rfl)
set_option maxHeartbeats 4000000 in
set_option maxRecDepth 100000 in
theorem j_X2_joinedChances_5 {a0 : Int32} {a1 : Int32} {a2 : Int32} (C : cx p s m args meth c cX2_joinedChances 6 (some .int) RX2 G) (hC : clo I) {Q : Int32 → Mem → Prop} : ∀ (n : Nat), ∀ (x3 : Int32) (x4 : Int32) (M : Mem) (H : Heap) (locs : List Loc) (ls : Array Slot), w_X2_joinedChances_5 a0 a1 a2 Q n x3 x4 M → wd G I ad M H → va_S (fA I ad) s.heap H locs → lv_has ls 6 [(0, .int a0), (1, .int a1), (2, .int a2), (3, .int x3), (4, .int x4)] → W p l e rm_X2_joinedChances s m args below meth c H locs 0 0 (MQ below (qI G I ad Q) args s 0 0 (fA I ad)) (F0 m 5 ls []) := by
  have hx := C.1
  have hb := C.2.1
  have hown := C.2.2.2.1
  have hts := C.2.2.2.2.1
  intro n
  induction n with
  | zero =>
    intro x3 x4 M H locs ls hw hP hS hl
    rw [w_X2_joinedChances_5] at hw
    exact hw.elim
  | succ n ih =>
    intro x3 x4 M H locs ls hw hP hS hl
    rw [w_X2_joinedChances_5] at hw
    refine lv_iload (pc := 5) hx hb dX2_joinedChances_5 (lv_at hl 4 rfl) ?_
    refine lv_iconst (pc := 7) (v := (2 : Int32)) hx hb dX2_joinedChances_7 (by decide) ?_
    refine lv_icmp_gt (pc := 8) (tgt := 81) hx hb dX2_joinedChances_8 (by decide) (fun h => ?_) (fun h => ?_)
    · replace hw := if_t h hw
      refine lv_iload_n (pc := 81) hx hb dX2_joinedChances_81 rfl (lv_at hl 3 rfl) ?_
      exact r_iret (pc := 82) C hP hS hw dX2_joinedChances_82
    · replace hw := if_f h hw
      refine lv_iconst (pc := 11) (v := (0 : Int32)) hx hb dX2_joinedChances_11 (by decide) ?_
      refine lv_istore (pc := 12) (lv' := [(5, .int (0 : Int32)), (0, .int a0), (1, .int a1), (2, .int a2), (3, .int x3), (4, .int x4)]) hx hb dX2_joinedChances_12 hl (by decide) rfl (fun ls hl => ?_)
      obtain ⟨n0, hw⟩ := hw
      exact j_X2_joinedChances_14 C hC ih n0 x3 x4 (0 : Int32) M _ _ _ hw hP hS (lv_sub hl [1, 2, 3, 4, 5, 0] rfl)
set_option maxHeartbeats 4000000 in
set_option maxRecDepth 100000 in
theorem j_X2_joinedChances_0 {a0 : Int32} {a1 : Int32} {a2 : Int32} (C : cx p s m args meth c cX2_joinedChances 6 (some .int) RX2 G) (hC : clo I) {Q : Int32 → Mem → Prop} : ∀ (M : Mem) (H : Heap) (locs : List Loc) (ls : Array Slot), w_X2_joinedChances a0 a1 a2 Q M → wd G I ad M H → va_S (fA I ad) s.heap H locs → lv_has ls 6 [(0, .int a0), (1, .int a1), (2, .int a2)] → W p l e rm_X2_joinedChances s m args below meth c H locs 0 0 (MQ below (qI G I ad Q) args s 0 0 (fA I ad)) (F0 m 0 ls []) := by
  have hx := C.1
  have hb := C.2.1
  have hown := C.2.2.2.1
  have hts := C.2.2.2.2.1
  intro M H locs ls hw hP hS hl
  unfold w_X2_joinedChances at hw
  refine lv_iconst (pc := 0) (v := (0 : Int32)) hx hb dX2_joinedChances_0 (by decide) ?_
  refine lv_istore_n (pc := 1) (lv' := [(3, .int (0 : Int32)), (0, .int a0), (1, .int a1), (2, .int a2)]) hx hb dX2_joinedChances_1 rfl hl (by decide) rfl (fun ls hl => ?_)
  refine lv_iconst (pc := 2) (v := (0 : Int32)) hx hb dX2_joinedChances_2 (by decide) ?_
  refine lv_istore (pc := 3) (lv' := [(4, .int (0 : Int32)), (3, .int (0 : Int32)), (0, .int a0), (1, .int a1), (2, .int a2)]) hx hb dX2_joinedChances_3 hl (by decide) rfl (fun ls hl => ?_)
  obtain ⟨n0, hw⟩ := hw
  exact j_X2_joinedChances_5 C hC  n0 (0 : Int32) (0 : Int32) M _ _ _ hw hP hS (lv_sub hl [2, 3, 4, 1, 0] rfl)
end
theorem k_X2_joinedChances (l : Launch) (G : GG) {I : ix → Prop} {ad : ix → Nat} (hC : clo I) {a0 : Int32} {a1 : Int32} {a2 : Int32} {Q : Int32 → Mem → Prop} {M : Mem} (hw : w_X2_joinedChances a0 a1 a2 Q M) : Met l yX2_joinedChances (wW yX2_joinedChances cX2_joinedChances 6 (some .int)) rm_X2_joinedChances (va_Pc [.int a0, .int a1, .int a2] (fun U => wd G I ad M U.heap ∧ wK G U)) (qI G I ad Q) 0 0 (fA I ad) := met_of (by decide +kernel) (Nat.le_of_ble_eq_true rfl) (fun p e s m below meth c C hP hS ls hl => j_X2_joinedChances_0 C hC  _ _ _ _ hw hP hS hl)
section
variable {p : Program} {l : Launch} {e : Env} {s : State} {m : MethodId} {args : Array Value} {below : List Frame} {meth : Method} {c : Code} 
variable  {G : GG} {I : ix → Prop} {ad : ix → Nat}
set_option maxHeartbeats 4000000 in
set_option maxRecDepth 100000 in
theorem j_X8_notOf_0 {a0 : Int32} (C : cx p s m args meth c cX8_notOf 1 (some .int) RX8 G) (hC : clo I) {Q : Int32 → Mem → Prop} : ∀ (M : Mem) (H : Heap) (locs : List Loc) (ls : Array Slot), w_X8_notOf a0 Q M → wd G I ad M H → va_S (fA I ad) s.heap H locs → lv_has ls 1 [(0, .int a0)] → W p l e rm_X8_notOf s m args below meth c H locs 0 0 (MQ below (qI G I ad Q) args s 0 0 (fA I ad)) (F0 m 0 ls []) := by
  have hx := C.1
  have hb := C.2.1
  have hown := C.2.2.2.1
  have hts := C.2.2.2.2.1
  intro M H locs ls hw hP hS hl
  unfold w_X8_notOf at hw
  refine lv_iload_n (pc := 0) hx hb dX8_notOf_0 rfl (lv_at hl 0 rfl) ?_
  refine lv_iconst (pc := 1) (v := (2 : Int32)) hx hb dX8_notOf_1 (by decide) ?_
  refine lv_icmp_ne (pc := 2) (tgt := 7) hx hb dX8_notOf_2 (by decide) (fun h => ?_) (fun h => ?_)
  · replace hw := if_f h hw
    refine lv_iload_n (pc := 7) hx hb dX8_notOf_7 rfl (lv_at hl 0 rfl) ?_
    refine lv_iconst (pc := 8) (v := (1 : Int32)) hx hb dX8_notOf_8 (by decide) ?_
    refine lv_icmp_ne (pc := 9) (tgt := 16) hx hb dX8_notOf_9 (by decide) (fun h => ?_) (fun h => ?_)
    · replace hw := if_f h hw
      refine lv_iconst (pc := 16) (v := (1 : Int32)) hx hb dX8_notOf_16 (by decide) ?_
      exact r_iret (pc := 17) C hP hS hw dX8_notOf_17
    · replace hw := if_t h hw
      refine lv_iconst (pc := 12) (v := (0 : Int32)) hx hb dX8_notOf_12 (by decide) ?_
      refine lv_goto (pc := 13) (tgt := 17) hx hb dX8_notOf_13 (by decide) ?_
      exact r_iret (pc := 17) C hP hS hw dX8_notOf_17
  · replace hw := if_t h hw
    refine lv_iconst (pc := 5) (v := (2 : Int32)) hx hb dX8_notOf_5 (by decide) ?_
    exact r_iret (pc := 6) C hP hS hw dX8_notOf_6
end
theorem k_X8_notOf (l : Launch) (G : GG) {I : ix → Prop} {ad : ix → Nat} (hC : clo I) {a0 : Int32} {Q : Int32 → Mem → Prop} {M : Mem} (hw : w_X8_notOf a0 Q M) : Met l yX8_notOf (wW yX8_notOf cX8_notOf 1 (some .int)) rm_X8_notOf (va_Pc [.int a0] (fun U => wd G I ad M U.heap ∧ wK G U)) (qI G I ad Q) 0 0 (fA I ad) := met_of (by decide +kernel) (Nat.le_of_ble_eq_true rfl) (fun p e s m below meth c C hP hS ls hl => j_X8_notOf_0 C hC  _ _ _ _ hw hP hS hl)
section
variable {p : Program} {l : Launch} {e : Env} {s : State} {m : MethodId} {args : Array Value} {below : List Frame} {meth : Method} {c : Code} 
variable  {G : GG} {I : ix → Prop} {ad : ix → Nat}
set_option maxHeartbeats 4000000 in
set_option maxRecDepth 100000 in
theorem j_X2_notChances_4 {a0 : Int32} (C : cx p s m args meth c cX2_notChances 3 (some .int) RX2 G) (hC : clo I) {Q : Int32 → Mem → Prop} : ∀ (n : Nat), ∀ (x1 : Int32) (x2 : Int32) (M : Mem) (H : Heap) (locs : List Loc) (ls : Array Slot), w_X2_notChances_4 a0 Q n x1 x2 M → wd G I ad M H → va_S (fA I ad) s.heap H locs → lv_has ls 3 [(0, .int a0), (1, .int x1), (2, .int x2)] → W p l e rm_X2_notChances s m args below meth c H locs 0 0 (MQ below (qI G I ad Q) args s 0 0 (fA I ad)) (F0 m 4 ls []) := by
  have hx := C.1
  have hb := C.2.1
  have hown := C.2.2.2.1
  have hts := C.2.2.2.2.1
  intro n
  induction n with
  | zero =>
    intro x1 x2 M H locs ls hw hP hS hl
    rw [w_X2_notChances_4] at hw
    exact hw.elim
  | succ n ih =>
    intro x1 x2 M H locs ls hw hP hS hl
    rw [w_X2_notChances_4] at hw
    refine lv_iload_n (pc := 4) hx hb dX2_notChances_4 rfl (lv_at hl 2 rfl) ?_
    refine lv_iconst (pc := 5) (v := (2 : Int32)) hx hb dX2_notChances_5 (by decide) ?_
    refine lv_icmp_gt (pc := 6) (tgt := 34) hx hb dX2_notChances_6 (by decide) (fun h => ?_) (fun h => ?_)
    · replace hw := if_t h hw
      refine lv_iload_n (pc := 34) hx hb dX2_notChances_34 rfl (lv_at hl 1 rfl) ?_
      exact r_iret (pc := 35) C hP hS hw dX2_notChances_35
    · replace hw := if_f h hw
      refine lv_iload_n (pc := 9) hx hb dX2_notChances_9 rfl (lv_at hl 0 rfl) ?_
      refine lv_iload_n (pc := 10) hx hb dX2_notChances_10 rfl (lv_at hl 2 rfl) ?_
      refine r_cNI (pc := 11) (rest := [.int a0]) (As := [.int x2]) C hl.1 hP hS (k_X8_chanceOf l G hC  hw) (List.mem_of_getElem? (i := 13) rfl) mw_550 mw_56 mw_551 ⟨rfl, rfl⟩ hd_X8_chanceOf rfl rfl ⟨Nat.le_of_ble_eq_true rfl, Nat.le_of_ble_eq_true rfl⟩ (Nat.le_of_ble_eq_true rfl) ⟨Nat.zero_le _, Nat.zero_le _⟩ dX2_notChances_11 (fun r11 M11 H locs hw hP hS => ?_)
      refine lv_iand (pc := 14) hx hb dX2_notChances_14 ?_
      refine lv_if_eq (pc := 15) (tgt := 28) hx hb dX2_notChances_15 (by decide) (fun h => ?_) (fun h => ?_)
      · replace hw := if_t h hw
        refine lv_iinc (pc := 28) (v := x2 + 1) (lv' := [(2, .int (x2 + 1)), (0, .int a0), (1, .int x1)]) hx hb dX2_notChances_28 hl (k := 2) rfl rfl (by decide) rfl (fun ls hl => ?_)
        refine lv_goto (pc := 31) (tgt := 4) hx hb dX2_notChances_31 (by decide) ?_
        exact ih x1 (x2 + 1) M11 _ _ _ hw hP hS (lv_sub hl [1, 2, 0] rfl)
      · replace hw := if_f h hw
        refine lv_iload_n (pc := 18) hx hb dX2_notChances_18 rfl (lv_at hl 1 rfl) ?_
        refine lv_iload_n (pc := 19) hx hb dX2_notChances_19 rfl (lv_at hl 2 rfl) ?_
        refine r_cNI (pc := 20) (rest := [.int x1]) (As := [.int x2]) C hl.1 hP hS (k_X8_notOf l G hC  hw) (List.mem_of_getElem? (i := 14) rfl) mw_497 mw_56 mw_498 ⟨rfl, rfl⟩ hd_X8_notOf rfl rfl ⟨Nat.le_of_ble_eq_true rfl, Nat.le_of_ble_eq_true rfl⟩ (Nat.le_of_ble_eq_true rfl) ⟨Nat.zero_le _, Nat.zero_le _⟩ dX2_notChances_20 (fun r20 M20 H locs hw hP hS => ?_)
        refine r_cNI (pc := 23) (rest := [.int x1]) (As := [.int r20]) C hl.1 hP hS (k_X8_chanceOf l G hC  hw) (List.mem_of_getElem? (i := 13) rfl) mw_550 mw_56 mw_551 ⟨rfl, rfl⟩ hd_X8_chanceOf rfl rfl ⟨Nat.le_of_ble_eq_true rfl, Nat.le_of_ble_eq_true rfl⟩ (Nat.le_of_ble_eq_true rfl) ⟨Nat.zero_le _, Nat.zero_le _⟩ dX2_notChances_23 (fun r23 M23 H locs hw hP hS => ?_)
        refine lv_ior (pc := 26) hx hb dX2_notChances_26 ?_
        refine lv_topi (fun x1_27 ex1_27 => ?_)
        replace hw := hw x1_27 ex1_27
        refine lv_istore_n (pc := 27) (lv' := [(1, .int x1_27), (0, .int a0), (2, .int x2)]) hx hb dX2_notChances_27 rfl hl (by decide) rfl (fun ls hl => ?_)
        refine lv_iinc (pc := 28) (v := x2 + 1) (lv' := [(2, .int (x2 + 1)), (1, .int x1_27), (0, .int a0)]) hx hb dX2_notChances_28 hl (k := 2) rfl rfl (by decide) rfl (fun ls hl => ?_)
        refine lv_goto (pc := 31) (tgt := 4) hx hb dX2_notChances_31 (by decide) ?_
        exact ih x1_27 (x2 + 1) M23 _ _ _ hw hP hS (lv_sub hl [2, 1, 0] rfl)
set_option maxHeartbeats 4000000 in
set_option maxRecDepth 100000 in
theorem j_X2_notChances_0 {a0 : Int32} (C : cx p s m args meth c cX2_notChances 3 (some .int) RX2 G) (hC : clo I) {Q : Int32 → Mem → Prop} : ∀ (M : Mem) (H : Heap) (locs : List Loc) (ls : Array Slot), w_X2_notChances a0 Q M → wd G I ad M H → va_S (fA I ad) s.heap H locs → lv_has ls 3 [(0, .int a0)] → W p l e rm_X2_notChances s m args below meth c H locs 0 0 (MQ below (qI G I ad Q) args s 0 0 (fA I ad)) (F0 m 0 ls []) := by
  have hx := C.1
  have hb := C.2.1
  have hown := C.2.2.2.1
  have hts := C.2.2.2.2.1
  intro M H locs ls hw hP hS hl
  unfold w_X2_notChances at hw
  refine lv_iconst (pc := 0) (v := (0 : Int32)) hx hb dX2_notChances_0 (by decide) ?_
  refine lv_istore_n (pc := 1) (lv' := [(1, .int (0 : Int32)), (0, .int a0)]) hx hb dX2_notChances_1 rfl hl (by decide) rfl (fun ls hl => ?_)
  refine lv_iconst (pc := 2) (v := (0 : Int32)) hx hb dX2_notChances_2 (by decide) ?_
  refine lv_istore_n (pc := 3) (lv' := [(2, .int (0 : Int32)), (1, .int (0 : Int32)), (0, .int a0)]) hx hb dX2_notChances_3 rfl hl (by decide) rfl (fun ls hl => ?_)
  obtain ⟨n0, hw⟩ := hw
  exact j_X2_notChances_4 C hC  n0 (0 : Int32) (0 : Int32) M _ _ _ hw hP hS (lv_sub hl [2, 1, 0] rfl)
end
theorem k_X2_notChances (l : Launch) (G : GG) {I : ix → Prop} {ad : ix → Nat} (hC : clo I) {a0 : Int32} {Q : Int32 → Mem → Prop} {M : Mem} (hw : w_X2_notChances a0 Q M) : Met l yX2_notChances (wW yX2_notChances cX2_notChances 3 (some .int)) rm_X2_notChances (va_Pc [.int a0] (fun U => wd G I ad M U.heap ∧ wK G U)) (qI G I ad Q) 0 0 (fA I ad) := met_of (by decide +kernel) (Nat.le_of_ble_eq_true rfl) (fun p e s m below meth c C hP hS ls hl => j_X2_notChances_0 C hC  _ _ _ _ hw hP hS hl)
section
variable {p : Program} {l : Launch} {e : Env} {s : State} {m : MethodId} {args : Array Value} {below : List Frame} {meth : Method} {c : Code} 
variable  {G : GG} {I : ix → Prop} {ad : ix → Nat}
set_option maxHeartbeats 4000000 in
set_option maxRecDepth 100000 in
theorem j_X8_isColumn_0 {a0 : Int32} (C : cx p s m args meth c cX8_isColumn 1 (some .boolean) RX8 G) (hC : clo I) {Q : Int32 → Mem → Prop} : ∀ (M : Mem) (H : Heap) (locs : List Loc) (ls : Array Slot), w_X8_isColumn a0 Q M → wd G I ad M H → va_S (fA I ad) s.heap H locs → lv_has ls 1 [(0, .int a0)] → W p l e rm_X8_isColumn s m args below meth c H locs 0 0 (MQ below (qI G I ad Q) args s 0 0 (fA I ad)) (F0 m 0 ls []) := by
  have hx := C.1
  have hb := C.2.1
  have hown := C.2.2.2.1
  have hts := C.2.2.2.2.1
  intro M H locs ls hw hP hS hl
  unfold w_X8_isColumn at hw
  refine lv_iload_n (pc := 0) hx hb dX8_isColumn_0 rfl (lv_at hl 0 rfl) ?_
  refine lv_if_lt (pc := 1) (tgt := 13) hx hb dX8_isColumn_1 (by decide) (fun h => ?_) (fun h => ?_)
  · replace hw := if_t h hw
    refine lv_iconst (pc := 13) (v := (0 : Int32)) hx hb dX8_isColumn_13 (by decide) ?_
    exact r_zret (pc := 14) C hP hS (by decide) hw dX8_isColumn_14
  · replace hw := if_f h hw
    refine lv_iload_n (pc := 4) hx hb dX8_isColumn_4 rfl (lv_at hl 0 rfl) ?_
    refine lv_iconst (pc := 5) (v := (4 : Int32)) hx hb dX8_isColumn_5 (by decide) ?_
    refine lv_icmp_ge (pc := 6) (tgt := 13) hx hb dX8_isColumn_6 (by decide) (fun h => ?_) (fun h => ?_)
    · replace hw := if_t h hw
      refine lv_iconst (pc := 13) (v := (0 : Int32)) hx hb dX8_isColumn_13 (by decide) ?_
      exact r_zret (pc := 14) C hP hS (by decide) hw dX8_isColumn_14
    · replace hw := if_f h hw
      refine lv_iconst (pc := 9) (v := (1 : Int32)) hx hb dX8_isColumn_9 (by decide) ?_
      refine lv_goto (pc := 10) (tgt := 14) hx hb dX8_isColumn_10 (by decide) ?_
      exact r_zret (pc := 14) C hP hS (by decide) hw dX8_isColumn_14
end
theorem k_X8_isColumn (l : Launch) (G : GG) {I : ix → Prop} {ad : ix → Nat} (hC : clo I) {a0 : Int32} {Q : Int32 → Mem → Prop} {M : Mem} (hw : w_X8_isColumn a0 Q M) : Met l yX8_isColumn (wW yX8_isColumn cX8_isColumn 1 (some .boolean)) rm_X8_isColumn (va_Pc [.int a0] (fun U => wd G I ad M U.heap ∧ wK G U)) (qI G I ad Q) 0 0 (fA I ad) := met_of (by decide +kernel) (Nat.le_of_ble_eq_true rfl) (fun p e s m below meth c C hP hS ls hl => j_X8_isColumn_0 C hC  _ _ _ _ hw hP hS hl)
section
variable {p : Program} {l : Launch} {e : Env} {s : State} {m : MethodId} {args : Array Value} {below : List Frame} {meth : Method} {c : Code} 
variable  {G : GG} {I : ix → Prop} {ad : ix → Nat}
set_option maxHeartbeats 4000000 in
set_option maxRecDepth 100000 in
theorem j_X2_missingChances_0 {a0 : Int32} {s1 : Nat} {b1 : Nat} (C : cx p s m args meth c cX2_missingChances 4 (some .int) RX2 G) (hC : clo I) (h1 : I (3, s1, b1, 0)) {Q : Int32 → Mem → Prop} : ∀ (M : Mem) (H : Heap) (locs : List Loc) (ls : Array Slot), w_X2_missingChances a0 s1 b1 Q M → wd G I ad M H → va_S (fA I ad) s.heap H locs → lv_has ls 4 [(0, .int a0), (1, .ref (ad (3, s1, b1, 0)))] → W p l e rm_X2_missingChances s m args below meth c H locs 0 0 (MQ below (qI G I ad Q) args s 0 0 (fA I ad)) (F0 m 0 ls []) := by
  have hx := C.1
  have hb := C.2.1
  have hown := C.2.2.2.1
  have hts := C.2.2.2.2.1
  intro M H locs ls hw hP hS hl
  unfold w_X2_missingChances at hw
  refine lv_iload_n (pc := 0) hx hb dX2_missingChances_0 rfl (lv_at hl 0 rfl) ?_
  refine r_cNI (pc := 1) (rest := []) (As := [.int a0]) C hl.1 hP hS (k_X8_isColumn l G hC  hw) (List.mem_of_getElem? (i := 12) rfl) mw_404 mw_56 mw_405 ⟨rfl, rfl⟩ hd_X8_isColumn rfl rfl ⟨Nat.le_of_ble_eq_true rfl, Nat.le_of_ble_eq_true rfl⟩ (Nat.le_of_ble_eq_true rfl) ⟨Nat.zero_le _, Nat.zero_le _⟩ dX2_missingChances_1 (fun r1 M1 H locs hw hP hS => ?_)
  refine lv_if_ne (pc := 4) (tgt := 9) hx hb dX2_missingChances_4 (by decide) (fun h => ?_) (fun h => ?_)
  · replace hw := if_f h hw
    refine lv_aload_n (pc := 9) hx hb dX2_missingChances_9 rfl (lv_at hl 1 rfl) ?_
    refine gf_143 (pc := 10) C hP h1 dX2_missingChances_10 ?_
    refine lv_iload_n (pc := 13) hx hb dX2_missingChances_13 rfl (lv_at hl 0 rfl) ?_
    refine r_aald6 (pc := 14) C hP (cl_3_2 hC h1) hw.1 dX2_missingChances_14 ?_
    have hi14 := in_lt hw.1
    replace hw := hw.2
    refine gf_110 (pc := 15) C hP (cl_6_e hC (cl_3_2 hC h1) hi14) dX2_missingChances_15 ?_
    refine lv_topi (fun x2_18 ex2_18 => ?_)
    replace hw := hw x2_18 ex2_18
    refine lv_istore_n (pc := 18) (lv' := [(2, .int x2_18), (0, .int a0), (1, .ref (ad (3, s1, b1, 0)))]) hx hb dX2_missingChances_18 rfl hl (by decide) rfl (fun ls hl => ?_)
    refine lv_iload_n (pc := 19) hx hb dX2_missingChances_19 rfl (lv_at hl 0 rfl) ?_
    refine lv_if_le (pc := 20) (tgt := 27) hx hb dX2_missingChances_20 (by decide) (fun h => ?_) (fun h => ?_)
    · replace hw := if_t h hw
      refine lv_iconst (pc := 27) (v := (0 : Int32)) hx hb dX2_missingChances_27 (by decide) ?_
      refine lv_istore_n (pc := 28) (lv' := [(3, .int (0 : Int32)), (2, .int x2_18), (0, .int a0), (1, .ref (ad (3, s1, b1, 0)))]) hx hb dX2_missingChances_28 rfl hl (by decide) rfl (fun ls hl => ?_)
      refine lv_iload_n (pc := 29) hx hb dX2_missingChances_29 rfl (lv_at hl 1 rfl) ?_
      refine lv_aload_n (pc := 30) hx hb dX2_missingChances_30 rfl (lv_at hl 3 rfl) ?_
      refine gf_138 (pc := 31) C hP h1 dX2_missingChances_31 ?_
      refine lv_icmp_ge (pc := 34) (tgt := 43) hx hb dX2_missingChances_34 (by decide) (fun h => ?_) (fun h => ?_)
      · replace hw := if_t h hw
        refine lv_iload_n (pc := 43) hx hb dX2_missingChances_43 rfl (lv_at hl 0 rfl) ?_
        exact r_iret (pc := 44) C hP hS hw dX2_missingChances_44
      · replace hw := if_f h hw
        refine lv_iload_n (pc := 37) hx hb dX2_missingChances_37 rfl (lv_at hl 0 rfl) ?_
        refine lv_iconst (pc := 38) (v := (2 : Int32)) hx hb dX2_missingChances_38 (by decide) ?_
        refine lv_ior (pc := 39) hx hb dX2_missingChances_39 ?_
        refine lv_goto (pc := 40) (tgt := 44) hx hb dX2_missingChances_40 (by decide) ?_
        exact r_iret (pc := 44) C hP hS hw dX2_missingChances_44
    · replace hw := if_f h hw
      refine lv_iconst (pc := 23) (v := (1 : Int32)) hx hb dX2_missingChances_23 (by decide) ?_
      refine lv_goto (pc := 24) (tgt := 28) hx hb dX2_missingChances_24 (by decide) ?_
      refine lv_istore_n (pc := 28) (lv' := [(3, .int (1 : Int32)), (2, .int x2_18), (0, .int a0), (1, .ref (ad (3, s1, b1, 0)))]) hx hb dX2_missingChances_28 rfl hl (by decide) rfl (fun ls hl => ?_)
      refine lv_iload_n (pc := 29) hx hb dX2_missingChances_29 rfl (lv_at hl 1 rfl) ?_
      refine lv_aload_n (pc := 30) hx hb dX2_missingChances_30 rfl (lv_at hl 3 rfl) ?_
      refine gf_138 (pc := 31) C hP h1 dX2_missingChances_31 ?_
      refine lv_icmp_ge (pc := 34) (tgt := 43) hx hb dX2_missingChances_34 (by decide) (fun h => ?_) (fun h => ?_)
      · replace hw := if_t h hw
        refine lv_iload_n (pc := 43) hx hb dX2_missingChances_43 rfl (lv_at hl 0 rfl) ?_
        exact r_iret (pc := 44) C hP hS hw dX2_missingChances_44
      · replace hw := if_f h hw
        refine lv_iload_n (pc := 37) hx hb dX2_missingChances_37 rfl (lv_at hl 0 rfl) ?_
        refine lv_iconst (pc := 38) (v := (2 : Int32)) hx hb dX2_missingChances_38 (by decide) ?_
        refine lv_ior (pc := 39) hx hb dX2_missingChances_39 ?_
        refine lv_goto (pc := 40) (tgt := 44) hx hb dX2_missingChances_40 (by decide) ?_
        exact r_iret (pc := 44) C hP hS hw dX2_missingChances_44
  · replace hw := if_t h hw
    refine lv_iconst (pc := 7) (v := (0 : Int32)) hx hb dX2_missingChances_7 (by decide) ?_
    exact r_iret (pc := 8) C hP hS hw dX2_missingChances_8
end
theorem k_X2_missingChances (l : Launch) (G : GG) {I : ix → Prop} {ad : ix → Nat} (hC : clo I) {a0 : Int32} {s1 : Nat} {b1 : Nat} (h1 : I (3, s1, b1, 0)) {Q : Int32 → Mem → Prop} {M : Mem} (hw : w_X2_missingChances a0 s1 b1 Q M) : Met l yX2_missingChances (wW yX2_missingChances cX2_missingChances 4 (some .int)) rm_X2_missingChances (va_Pc [.int a0, .ref (ad (3, s1, b1, 0))] (fun U => wd G I ad M U.heap ∧ wK G U)) (qI G I ad Q) 0 0 (fA I ad) := met_of (by decide +kernel) (Nat.le_of_ble_eq_true rfl) (fun p e s m below meth c C hP hS ls hl => j_X2_missingChances_0 C hC h1 _ _ _ _ hw hP hS hl)
section
variable {p : Program} {l : Launch} {e : Env} {s : State} {m : MethodId} {args : Array Value} {below : List Frame} {meth : Method} {c : Code} 
variable  {G : GG} {I : ix → Prop} {ad : ix → Nat}
set_option maxHeartbeats 4000000 in
set_option maxRecDepth 100000 in
theorem j_X2_chancesAt_0 {a1 : Int32} {s2 : Nat} {b2 : Nat} (C : cx p s m args meth c cX2_chancesAt 6 (some .int) RX2 G) (hC : clo I) (h0 : I (20, 0, 0, 0)) (h2 : I (3, s2, b2, 0)) {Q : Int32 → Mem → Prop} : ∀ (M : Mem) (H : Heap) (locs : List Loc) (ls : Array Slot), w_X2_chancesAt a1 s2 b2 Q M → wd G I ad M H → va_S (fA I ad) s.heap H locs → lv_has ls 6 [(0, .ref (ad (20, 0, 0, 0))), (1, .int a1), (2, .ref (ad (3, s2, b2, 0)))] → W p l e rm_X2_chancesAt s m args below meth c H locs 0 0 (MQ below (qI G I ad Q) args s 0 0 (fA I ad)) (F0 m 0 ls []) := by
  have hx := C.1
  have hb := C.2.1
  have hown := C.2.2.2.1
  have hts := C.2.2.2.2.1
  intro M H locs ls hw hP hS hl
  unfold w_X2_chancesAt at hw
  refine lv_aload_n (pc := 0) hx hb dX2_chancesAt_0 rfl (lv_at hl 0 rfl) ?_
  refine gf_241 (pc := 1) C hP h0 dX2_chancesAt_1 ?_
  refine gf_182 (pc := 4) C hP (cl_20_3 hC h0) dX2_chancesAt_4 ?_
  refine lv_iload_n (pc := 7) hx hb dX2_chancesAt_7 rfl (lv_at hl 1 rfl) ?_
  refine r_ialdK (pc := 8) (n := 60) (k := a1.toNatClampNeg) C hP (cl_11_1 hC (cl_20_3 hC h0)) (fun _ _ _ _ => rfl) hw.1 rfl dX2_chancesAt_8 ?_
  replace hw := hw.2
  refine lv_topi (fun x3_9 ex3_9 => ?_)
  replace hw := hw x3_9 ex3_9
  refine lv_istore_n (pc := 9) (lv' := [(3, .int x3_9), (0, .ref (ad (20, 0, 0, 0))), (1, .int a1), (2, .ref (ad (3, s2, b2, 0)))]) hx hb dX2_chancesAt_9 rfl hl (by decide) rfl (fun ls hl => ?_)
  refine lv_iload_n (pc := 10) hx hb dX2_chancesAt_10 rfl (lv_at hl 0 rfl) ?_
  refine lv_bipush (pc := 11) (v := (109 : Int32)) hx hb dX2_chancesAt_11 (by decide) ?_
  refine lv_icmp_ne (pc := 13) (tgt := 37) hx hb dX2_chancesAt_13 (by decide) (fun h => ?_) (fun h => ?_)
  · replace hw := if_f h hw
    refine lv_iload_n (pc := 37) hx hb dX2_chancesAt_37 rfl (lv_at hl 2 rfl) ?_
    refine lv_iconst (pc := 38) (v := (1 : Int32)) hx hb dX2_chancesAt_38 (by decide) ?_
    refine lv_iadd (pc := 39) hx hb dX2_chancesAt_39 ?_
    refine lv_topi (fun x4_40 ex4_40 => ?_)
    replace hw := hw x4_40 ex4_40
    refine lv_istore (pc := 40) (lv' := [(4, .int x4_40), (3, .int x3_9), (0, .ref (ad (20, 0, 0, 0))), (1, .int a1), (2, .ref (ad (3, s2, b2, 0)))]) hx hb dX2_chancesAt_40 hl (by decide) rfl (fun ls hl => ?_)
    refine lv_aload_n (pc := 42) hx hb dX2_chancesAt_42 rfl (lv_at hl 2 rfl) ?_
    refine gf_241 (pc := 43) C hP h0 dX2_chancesAt_43 ?_
    refine gf_188 (pc := 46) C hP (cl_20_3 hC h0) dX2_chancesAt_46 ?_
    refine lv_iload_n (pc := 49) hx hb dX2_chancesAt_49 rfl (lv_at hl 3 rfl) ?_
    refine r_ialdK (pc := 50) (n := 60) (k := a1.toNatClampNeg) C hP (cl_11_3 hC (cl_20_3 hC h0)) (fun _ _ _ _ => rfl) hw.1 rfl dX2_chancesAt_50 ?_
    replace hw := hw.2
    refine lv_topi (fun x5_51 ex5_51 => ?_)
    replace hw := hw x5_51 ex5_51
    refine lv_istore (pc := 51) (lv' := [(5, .int x5_51), (4, .int x4_40), (3, .int x3_9), (0, .ref (ad (20, 0, 0, 0))), (1, .int a1), (2, .ref (ad (3, s2, b2, 0)))]) hx hb dX2_chancesAt_51 hl (by decide) rfl (fun ls hl => ?_)
    refine lv_iload_n (pc := 53) hx hb dX2_chancesAt_53 rfl (lv_at hl 2 rfl) ?_
    refine lv_bipush (pc := 54) (v := (60 : Int32)) hx hb dX2_chancesAt_54 (by decide) ?_
    refine lv_icmp_eq (pc := 56) (tgt := 65) hx hb dX2_chancesAt_56 (by decide) (fun h => ?_) (fun h => ?_)
    · replace hw := if_t h hw
      refine lv_aload_n (pc := 65) hx hb dX2_chancesAt_65 rfl (lv_at hl 3 rfl) ?_
      refine lv_iload_n (pc := 66) hx hb dX2_chancesAt_66 rfl (lv_at hl 2 rfl) ?_
      refine lv_iload (pc := 67) hx hb dX2_chancesAt_67 (lv_at hl 1 rfl) ?_
      refine lv_iload (pc := 69) hx hb dX2_chancesAt_69 (lv_at hl 0 rfl) ?_
      refine r_cVI (pc := 71) (rest := []) (As := [.int x3_9, .int x4_40, .int x5_51]) C hl.1 hP hS (k_X2_comparedChances l G hC h0 hw) h0 rfl rfl mw_542 mw_544 mw_15 mw_62 mw_545 ⟨rfl, rfl⟩ hd_X2_comparedChances rfl rfl ⟨Nat.le_of_ble_eq_true rfl, Nat.le_of_ble_eq_true rfl⟩ (Nat.le_of_ble_eq_true rfl) ⟨Nat.zero_le _, Nat.zero_le _⟩ dX2_chancesAt_71 (fun r71 M71 H locs hw hP hS => ?_)
      exact r_iret (pc := 74) C hP hS hw dX2_chancesAt_74
    · replace hw := if_f h hw
      refine lv_iload_n (pc := 59) hx hb dX2_chancesAt_59 rfl (lv_at hl 2 rfl) ?_
      refine lv_bipush (pc := 60) (v := (61 : Int32)) hx hb dX2_chancesAt_60 (by decide) ?_
      refine lv_icmp_ne (pc := 62) (tgt := 75) hx hb dX2_chancesAt_62 (by decide) (fun h => ?_) (fun h => ?_)
      · replace hw := if_f h hw
        refine lv_iload_n (pc := 75) hx hb dX2_chancesAt_75 rfl (lv_at hl 2 rfl) ?_
        refine lv_bipush (pc := 76) (v := (33 : Int32)) hx hb dX2_chancesAt_76 (by decide) ?_
        refine lv_icmp_ne (pc := 78) (tgt := 94) hx hb dX2_chancesAt_78 (by decide) (fun h => ?_) (fun h => ?_)
        · replace hw := if_f h hw
          refine lv_iload_n (pc := 94) hx hb dX2_chancesAt_94 rfl (lv_at hl 2 rfl) ?_
          refine lv_aload_n (pc := 95) hx hb dX2_chancesAt_95 rfl (lv_at hl 3 rfl) ?_
          refine gf_235 (pc := 96) C hP h0 dX2_chancesAt_96 ?_
          refine lv_iload (pc := 99) hx hb dX2_chancesAt_99 (lv_at hl 1 rfl) ?_
          refine r_cNI (pc := 101) (rest := [.int x3_9]) (As := [.ref (ad (21, 0, 0, 0)), .int x4_40]) C hl.1 hP hS (k_X8_at l G hC (cl_20_0 hC h0) (fun _ _ _ _ => rfl) hw) (List.mem_of_getElem? (i := 11) rfl) mw_453 mw_56 mw_454 ⟨rfl, rfl⟩ hd_X8_at rfl rfl ⟨Nat.le_of_ble_eq_true rfl, Nat.le_of_ble_eq_true rfl⟩ (Nat.le_of_ble_eq_true rfl) ⟨Nat.zero_le _, Nat.zero_le _⟩ dX2_chancesAt_101 (fun r101 M101 H locs hw hP hS => ?_)
          refine lv_aload_n (pc := 104) hx hb dX2_chancesAt_104 rfl (lv_at hl 3 rfl) ?_
          refine gf_235 (pc := 105) C hP h0 dX2_chancesAt_105 ?_
          refine lv_iload (pc := 108) hx hb dX2_chancesAt_108 (lv_at hl 0 rfl) ?_
          refine r_cNI (pc := 110) (rest := [.int r101, .int x3_9]) (As := [.ref (ad (21, 0, 0, 0)), .int x5_51]) C hl.1 hP hS (k_X8_at l G hC (cl_20_0 hC h0) (fun _ _ _ _ => rfl) hw) (List.mem_of_getElem? (i := 11) rfl) mw_453 mw_56 mw_454 ⟨rfl, rfl⟩ hd_X8_at rfl rfl ⟨Nat.le_of_ble_eq_true rfl, Nat.le_of_ble_eq_true rfl⟩ (Nat.le_of_ble_eq_true rfl) ⟨Nat.zero_le _, Nat.zero_le _⟩ dX2_chancesAt_110 (fun r110 M110 H locs hw hP hS => ?_)
          refine r_cSI (pc := 113) (rest := []) (As := [.int x3_9, .int r101, .int r110]) C hl.1 hP hS (k_X2_joinedChances l G hC  hw) mw_553 mw_554 mw_62 mw_555 ⟨rfl, rfl⟩ hd_X2_joinedChances rfl rfl ⟨Nat.le_of_ble_eq_true rfl, Nat.le_of_ble_eq_true rfl⟩ (Nat.le_of_ble_eq_true rfl) ⟨Nat.zero_le _, Nat.zero_le _⟩ dX2_chancesAt_113 (fun r113 M113 H locs hw hP hS => ?_)
          exact r_iret (pc := 116) C hP hS hw dX2_chancesAt_116
        · replace hw := if_t h hw
          refine lv_aload_n (pc := 81) hx hb dX2_chancesAt_81 rfl (lv_at hl 3 rfl) ?_
          refine gf_235 (pc := 82) C hP h0 dX2_chancesAt_82 ?_
          refine lv_iload (pc := 85) hx hb dX2_chancesAt_85 (lv_at hl 1 rfl) ?_
          refine r_cNI (pc := 87) (rest := []) (As := [.ref (ad (21, 0, 0, 0)), .int x4_40]) C hl.1 hP hS (k_X8_at l G hC (cl_20_0 hC h0) (fun _ _ _ _ => rfl) hw) (List.mem_of_getElem? (i := 11) rfl) mw_453 mw_56 mw_454 ⟨rfl, rfl⟩ hd_X8_at rfl rfl ⟨Nat.le_of_ble_eq_true rfl, Nat.le_of_ble_eq_true rfl⟩ (Nat.le_of_ble_eq_true rfl) ⟨Nat.zero_le _, Nat.zero_le _⟩ dX2_chancesAt_87 (fun r87 M87 H locs hw hP hS => ?_)
          refine r_cSI (pc := 90) (rest := []) (As := [.int r87]) C hl.1 hP hS (k_X2_notChances l G hC  hw) mw_546 mw_547 mw_62 mw_548 ⟨rfl, rfl⟩ hd_X2_notChances rfl rfl ⟨Nat.le_of_ble_eq_true rfl, Nat.le_of_ble_eq_true rfl⟩ (Nat.le_of_ble_eq_true rfl) ⟨Nat.zero_le _, Nat.zero_le _⟩ dX2_chancesAt_90 (fun r90 M90 H locs hw hP hS => ?_)
          exact r_iret (pc := 93) C hP hS hw dX2_chancesAt_93
      · replace hw := if_t h hw
        refine lv_aload_n (pc := 65) hx hb dX2_chancesAt_65 rfl (lv_at hl 3 rfl) ?_
        refine lv_iload_n (pc := 66) hx hb dX2_chancesAt_66 rfl (lv_at hl 2 rfl) ?_
        refine lv_iload (pc := 67) hx hb dX2_chancesAt_67 (lv_at hl 1 rfl) ?_
        refine lv_iload (pc := 69) hx hb dX2_chancesAt_69 (lv_at hl 0 rfl) ?_
        refine r_cVI (pc := 71) (rest := []) (As := [.int x3_9, .int x4_40, .int x5_51]) C hl.1 hP hS (k_X2_comparedChances l G hC h0 hw) h0 rfl rfl mw_542 mw_544 mw_15 mw_62 mw_545 ⟨rfl, rfl⟩ hd_X2_comparedChances rfl rfl ⟨Nat.le_of_ble_eq_true rfl, Nat.le_of_ble_eq_true rfl⟩ (Nat.le_of_ble_eq_true rfl) ⟨Nat.zero_le _, Nat.zero_le _⟩ dX2_chancesAt_71 (fun r71 M71 H locs hw hP hS => ?_)
        exact r_iret (pc := 74) C hP hS hw dX2_chancesAt_74
  · replace hw := if_t h hw
    refine lv_aload_n (pc := 16) hx hb dX2_chancesAt_16 rfl (lv_at hl 1 rfl) ?_
    refine gf_241 (pc := 17) C hP h0 dX2_chancesAt_17 ?_
    refine gf_182 (pc := 20) C hP (cl_20_3 hC h0) dX2_chancesAt_20 ?_
    refine lv_iload_n (pc := 23) hx hb dX2_chancesAt_23 rfl (lv_at hl 2 rfl) ?_
    refine lv_iconst (pc := 24) (v := (1 : Int32)) hx hb dX2_chancesAt_24 (by decide) ?_
    refine lv_iadd (pc := 25) hx hb dX2_chancesAt_25 ?_
    refine r_cNI (pc := 26) (rest := []) (As := [.ref (ad (12, 0, 0, 0)), .int (a1 + (1 : Int32))]) C hl.1 hP hS (k_X8_at l G hC (cl_11_1 hC (cl_20_3 hC h0)) (fun _ _ _ _ => rfl) hw) (List.mem_of_getElem? (i := 11) rfl) mw_453 mw_56 mw_454 ⟨rfl, rfl⟩ hd_X8_at rfl rfl ⟨Nat.le_of_ble_eq_true rfl, Nat.le_of_ble_eq_true rfl⟩ (Nat.le_of_ble_eq_true rfl) ⟨Nat.zero_le _, Nat.zero_le _⟩ dX2_chancesAt_26 (fun r26 M26 H locs hw hP hS => ?_)
    refine lv_bipush (pc := 29) (v := (97 : Int32)) hx hb dX2_chancesAt_29 (by decide) ?_
    refine lv_isub (pc := 31) hx hb dX2_chancesAt_31 ?_
    refine lv_aload_n (pc := 32) hx hb dX2_chancesAt_32 rfl (lv_at hl 3 rfl) ?_
    refine r_cSI (pc := 33) (rest := []) (As := [.int (r26 - (97 : Int32)), .ref (ad (3, s2, b2, 0))]) C hl.1 hP hS (k_X2_missingChances l G hC h2 hw) mw_538 mw_539 mw_62 mw_540 ⟨rfl, rfl⟩ hd_X2_missingChances rfl rfl ⟨Nat.le_of_ble_eq_true rfl, Nat.le_of_ble_eq_true rfl⟩ (Nat.le_of_ble_eq_true rfl) ⟨Nat.zero_le _, Nat.zero_le _⟩ dX2_chancesAt_33 (fun r33 M33 H locs hw hP hS => ?_)
    exact r_iret (pc := 36) C hP hS hw dX2_chancesAt_36
end
theorem k_X2_chancesAt (l : Launch) (G : GG) {I : ix → Prop} {ad : ix → Nat} (hC : clo I) {a1 : Int32} {s2 : Nat} {b2 : Nat} (h0 : I (20, 0, 0, 0)) (h2 : I (3, s2, b2, 0)) {Q : Int32 → Mem → Prop} {M : Mem} (hw : w_X2_chancesAt a1 s2 b2 Q M) : Met l yX2_chancesAt (wW yX2_chancesAt cX2_chancesAt 6 (some .int)) rm_X2_chancesAt (va_Pc [.ref (ad (20, 0, 0, 0)), .int a1, .ref (ad (3, s2, b2, 0))] (fun U => wd G I ad M U.heap ∧ wK G U)) (qI G I ad Q) 0 0 (fA I ad) := met_of (by decide +kernel) (Nat.le_of_ble_eq_true rfl) (fun p e s m below meth c C hP hS ls hl => j_X2_chancesAt_0 C hC h0 h2 _ _ _ _ hw hP hS hl)
section
variable {p : Program} {l : Launch} {e : Env} {s : State} {m : MethodId} {args : Array Value} {below : List Frame} {meth : Method} {c : Code} 
variable  {G : GG} {I : ix → Prop} {ad : ix → Nat}
set_option maxHeartbeats 4000000 in
set_option maxRecDepth 100000 in
theorem j_X2_judge_10 {s1 : Nat} {b1 : Nat} (C : cx p s m args meth c cX2_judge 3 none RX2 G) (hC : clo I) (h0 : I (20, 0, 0, 0)) (h1 : I (3, s1, b1, 0)) {Q : Mem → Prop} : ∀ (n : Nat), ∀ (x2 : Int32) (M : Mem) (H : Heap) (locs : List Loc) (ls : Array Slot), w_X2_judge_10 s1 b1 Q n x2 M → wd G I ad M H → va_S (fA I ad) s.heap H locs → lv_has ls 3 [(0, .ref (ad (20, 0, 0, 0))), (1, .ref (ad (3, s1, b1, 0))), (2, .int x2)] → W p l e rm_X2_judge s m args below meth c H locs 0 0 (MQ below (qV G I ad Q) args s 0 0 (fA I ad)) (F0 m 10 ls []) := by
  have hx := C.1
  have hb := C.2.1
  have hown := C.2.2.2.1
  have hts := C.2.2.2.2.1
  intro n
  induction n with
  | zero =>
    intro x2 M H locs ls hw hP hS hl
    rw [w_X2_judge_10] at hw
    exact hw.elim
  | succ n ih =>
    intro x2 M H locs ls hw hP hS hl
    rw [w_X2_judge_10] at hw
    refine lv_iload_n (pc := 10) hx hb dX2_judge_10 rfl (lv_at hl 2 rfl) ?_
    refine lv_if_lt (pc := 11) (tgt := 79) hx hb dX2_judge_11 (by decide) (fun h => ?_) (fun h => ?_)
    · replace hw := if_t h hw
      exact r_vret (pc := 79) C hP hS hw dX2_judge_79
    · replace hw := if_f h hw
      refine lv_aload_n (pc := 14) hx hb dX2_judge_14 rfl (lv_at hl 0 rfl) ?_
      refine gf_241 (pc := 15) C hP h0 dX2_judge_15 ?_
      refine gf_185 (pc := 18) C hP (cl_20_3 hC h0) dX2_judge_18 ?_
      refine lv_iload_n (pc := 21) hx hb dX2_judge_21 rfl (lv_at hl 2 rfl) ?_
      refine r_ialdK (pc := 22) (n := 60) (k := x2.toNatClampNeg) C hP (cl_11_2 hC (cl_20_3 hC h0)) (fun _ _ _ _ => rfl) hw.1 rfl dX2_judge_22 ?_
      replace hw := hw.2
      refine lv_iconst (pc := 23) (v := (1 : Int32)) hx hb dX2_judge_23 (by decide) ?_
      refine lv_icmp_ne (pc := 24) (tgt := 42) hx hb dX2_judge_24 (by decide) (fun h => ?_) (fun h => ?_)
      · replace hw := if_f h hw
        refine lv_aload_n (pc := 42) hx hb dX2_judge_42 rfl (lv_at hl 0 rfl) ?_
        refine gf_241 (pc := 43) C hP h0 dX2_judge_43 ?_
        refine gf_185 (pc := 46) C hP (cl_20_3 hC h0) dX2_judge_46 ?_
        refine lv_iload_n (pc := 49) hx hb dX2_judge_49 rfl (lv_at hl 2 rfl) ?_
        refine r_ialdK (pc := 50) (n := 60) (k := x2.toNatClampNeg) C hP (cl_11_2 hC (cl_20_3 hC h0)) (fun _ _ _ _ => rfl) hw.1 rfl dX2_judge_50 ?_
        replace hw := hw.2
        refine lv_iconst (pc := 51) (v := (2 : Int32)) hx hb dX2_judge_51 (by decide) ?_
        refine lv_icmp_ne (pc := 52) (tgt := 73) hx hb dX2_judge_52 (by decide) (fun h => ?_) (fun h => ?_)
        · replace hw := if_f h hw
          refine lv_iinc (pc := 73) (v := x2 + (-1)) (lv' := [(2, .int (x2 + (-1))), (0, .ref (ad (20, 0, 0, 0))), (1, .ref (ad (3, s1, b1, 0)))]) hx hb dX2_judge_73 hl (k := 2) rfl rfl (by decide) rfl (fun ls hl => ?_)
          refine lv_goto (pc := 76) (tgt := 10) hx hb dX2_judge_76 (by decide) ?_
          exact ih (x2 + (-1)) M _ _ _ hw hP hS (lv_sub hl [1, 2, 0] rfl)
        · replace hw := if_t h hw
          refine lv_aload_n (pc := 55) hx hb dX2_judge_55 rfl (lv_at hl 0 rfl) ?_
          refine gf_235 (pc := 56) C hP h0 dX2_judge_56 ?_
          refine lv_iload_n (pc := 59) hx hb dX2_judge_59 rfl (lv_at hl 2 rfl) ?_
          refine lv_aload_n (pc := 60) hx hb dX2_judge_60 rfl (lv_at hl 0 rfl) ?_
          refine lv_iload_n (pc := 61) hx hb dX2_judge_61 rfl (lv_at hl 2 rfl) ?_
          refine lv_aload_n (pc := 62) hx hb dX2_judge_62 rfl (lv_at hl 1 rfl) ?_
          refine r_cVI (pc := 63) (rest := [.int x2, .ref (ad (21, 0, 0, 0))]) (As := [.int x2, .ref (ad (3, s1, b1, 0))]) C hl.1 hP hS (k_X2_kindAt l G hC h0 h1 hw) h0 rfl rfl mw_558 mw_560 mw_16 mw_62 mw_561 ⟨rfl, rfl⟩ hd_X2_kindAt rfl rfl ⟨Nat.le_of_ble_eq_true rfl, Nat.le_of_ble_eq_true rfl⟩ (Nat.le_of_ble_eq_true rfl) ⟨Nat.zero_le _, Nat.zero_le _⟩ dX2_judge_63 (fun r63 M63 H locs hw hP hS => ?_)
          refine r_iastK (pc := 66) (n := 60) (k := x2.toNatClampNeg) C hP hS (cl_20_0 hC h0) (fun _ _ _ _ => rfl) hw.1 rfl dX2_judge_66 (fun H locs hP hS => ?_)
          replace hw := hw.2
          refine lv_aload_n (pc := 67) hx hb dX2_judge_67 rfl (lv_at hl 0 rfl) ?_
          refine lv_iload_n (pc := 68) hx hb dX2_judge_68 rfl (lv_at hl 2 rfl) ?_
          refine lv_aload_n (pc := 69) hx hb dX2_judge_69 rfl (lv_at hl 1 rfl) ?_
          refine r_cVV (pc := 70) (rest := []) (As := [.int x2, .ref (ad (3, s1, b1, 0))]) C hl.1 hP hS (k_X2_findBounds l G hC h0 h1 hw) h0 rfl rfl mw_565 mw_567 mw_17 mw_62 mw_568 ⟨rfl, rfl⟩ hd_X2_findBounds rfl rfl ⟨Nat.le_of_ble_eq_true rfl, Nat.le_of_ble_eq_true rfl⟩ (Nat.le_of_ble_eq_true rfl) ⟨Nat.zero_le _, Nat.zero_le _⟩ dX2_judge_70 (fun M70 H locs hw hP hS => ?_)
          refine lv_iinc (pc := 73) (v := x2 + (-1)) (lv' := [(2, .int (x2 + (-1))), (0, .ref (ad (20, 0, 0, 0))), (1, .ref (ad (3, s1, b1, 0)))]) hx hb dX2_judge_73 hl (k := 2) rfl rfl (by decide) rfl (fun ls hl => ?_)
          refine lv_goto (pc := 76) (tgt := 10) hx hb dX2_judge_76 (by decide) ?_
          exact ih (x2 + (-1)) M70 _ _ _ hw hP hS (lv_sub hl [1, 2, 0] rfl)
      · replace hw := if_t h hw
        refine lv_aload_n (pc := 27) hx hb dX2_judge_27 rfl (lv_at hl 0 rfl) ?_
        refine gf_235 (pc := 28) C hP h0 dX2_judge_28 ?_
        refine lv_iload_n (pc := 31) hx hb dX2_judge_31 rfl (lv_at hl 2 rfl) ?_
        refine lv_aload_n (pc := 32) hx hb dX2_judge_32 rfl (lv_at hl 0 rfl) ?_
        refine lv_iload_n (pc := 33) hx hb dX2_judge_33 rfl (lv_at hl 2 rfl) ?_
        refine lv_aload_n (pc := 34) hx hb dX2_judge_34 rfl (lv_at hl 1 rfl) ?_
        refine r_cVI (pc := 35) (rest := [.int x2, .ref (ad (21, 0, 0, 0))]) (As := [.int x2, .ref (ad (3, s1, b1, 0))]) C hl.1 hP hS (k_X2_chancesAt l G hC h0 h1 hw) h0 rfl rfl mw_533 mw_535 mw_14 mw_62 mw_536 ⟨rfl, rfl⟩ hd_X2_chancesAt rfl rfl ⟨Nat.le_of_ble_eq_true rfl, Nat.le_of_ble_eq_true rfl⟩ (Nat.le_of_ble_eq_true rfl) ⟨Nat.zero_le _, Nat.zero_le _⟩ dX2_judge_35 (fun r35 M35 H locs hw hP hS => ?_)
        refine r_iastK (pc := 38) (n := 60) (k := x2.toNatClampNeg) C hP hS (cl_20_0 hC h0) (fun _ _ _ _ => rfl) hw.1 rfl dX2_judge_38 (fun H locs hP hS => ?_)
        replace hw := hw.2
        refine lv_goto (pc := 39) (tgt := 73) hx hb dX2_judge_39 (by decide) ?_
        refine lv_iinc (pc := 73) (v := x2 + (-1)) (lv' := [(2, .int (x2 + (-1))), (0, .ref (ad (20, 0, 0, 0))), (1, .ref (ad (3, s1, b1, 0)))]) hx hb dX2_judge_73 hl (k := 2) rfl rfl (by decide) rfl (fun ls hl => ?_)
        refine lv_goto (pc := 76) (tgt := 10) hx hb dX2_judge_76 (by decide) ?_
        exact ih (x2 + (-1)) (mu M35 (21, 0, 0, 0) (x2.toNatClampNeg) r35) _ _ _ hw hP hS (lv_sub hl [1, 2, 0] rfl)
set_option maxHeartbeats 4000000 in
set_option maxRecDepth 100000 in
theorem j_X2_judge_0 {s1 : Nat} {b1 : Nat} (C : cx p s m args meth c cX2_judge 3 none RX2 G) (hC : clo I) (h0 : I (20, 0, 0, 0)) (h1 : I (3, s1, b1, 0)) {Q : Mem → Prop} : ∀ (M : Mem) (H : Heap) (locs : List Loc) (ls : Array Slot), w_X2_judge s1 b1 Q M → wd G I ad M H → va_S (fA I ad) s.heap H locs → lv_has ls 3 [(0, .ref (ad (20, 0, 0, 0))), (1, .ref (ad (3, s1, b1, 0)))] → W p l e rm_X2_judge s m args below meth c H locs 0 0 (MQ below (qV G I ad Q) args s 0 0 (fA I ad)) (F0 m 0 ls []) := by
  have hx := C.1
  have hb := C.2.1
  have hown := C.2.2.2.1
  have hts := C.2.2.2.2.1
  intro M H locs ls hw hP hS hl
  unfold w_X2_judge at hw
  refine lv_aload_n (pc := 0) hx hb dX2_judge_0 rfl (lv_at hl 0 rfl) ?_
  refine gf_241 (pc := 1) C hP h0 dX2_judge_1 ?_
  refine gf_178 (pc := 4) C hP (cl_20_3 hC h0) dX2_judge_4 ?_
  refine lv_iconst (pc := 7) (v := (1 : Int32)) hx hb dX2_judge_7 (by decide) ?_
  refine lv_isub (pc := 8) hx hb dX2_judge_8 ?_
  refine lv_topi (fun x2_9 ex2_9 => ?_)
  replace hw := hw x2_9 ex2_9
  refine lv_istore_n (pc := 9) (lv' := [(2, .int x2_9), (0, .ref (ad (20, 0, 0, 0))), (1, .ref (ad (3, s1, b1, 0)))]) hx hb dX2_judge_9 rfl hl (by decide) rfl (fun ls hl => ?_)
  obtain ⟨n0, hw⟩ := hw
  exact j_X2_judge_10 C hC h0 h1 n0 x2_9 M _ _ _ hw hP hS (lv_sub hl [1, 2, 0] rfl)
end
theorem k_X2_judge (l : Launch) (G : GG) {I : ix → Prop} {ad : ix → Nat} (hC : clo I) {s1 : Nat} {b1 : Nat} (h0 : I (20, 0, 0, 0)) (h1 : I (3, s1, b1, 0)) {Q : Mem → Prop} {M : Mem} (hw : w_X2_judge s1 b1 Q M) : Met l yX2_judge (wW yX2_judge cX2_judge 3 none) rm_X2_judge (va_Pc [.ref (ad (20, 0, 0, 0)), .ref (ad (3, s1, b1, 0))] (fun U => wd G I ad M U.heap ∧ wK G U)) (qV G I ad Q) 0 0 (fA I ad) := met_of (by decide +kernel) (Nat.le_of_ble_eq_true rfl) (fun p e s m below meth c C hP hS ls hl => j_X2_judge_0 C hC h0 h1 _ _ _ _ hw hP hS hl)
section
variable {p : Program} {l : Launch} {e : Env} {s : State} {m : MethodId} {args : Array Value} {below : List Frame} {meth : Method} {c : Code} 
variable  {G : GG} {I : ix → Prop} {ad : ix → Nat}
set_option maxHeartbeats 4000000 in
set_option maxRecDepth 100000 in
theorem j_X3_termAt_0 {a1 : Int32} {r2 : ix} {n2 : Nat} (C : cx p s m args meth c cX3_termAt 6 (some .int) RX3 G) (hC : clo I) (h0 : I (18, 0, 0, 0)) (hr2 : I r2) (hn2 : isI r2 n2) {Q : Int32 → Mem → Prop} : ∀ (M : Mem) (H : Heap) (locs : List Loc) (ls : Array Slot), w_X3_termAt a1 r2 n2 Q M → wd G I ad M H → va_S (fA I ad) s.heap H locs → lv_has ls 6 [(0, .ref (ad (18, 0, 0, 0))), (1, .int a1), (2, .ref (ad r2))] → W p l e rm_X3_termAt s m args below meth c H locs 0 0 (MQ below (qI G I ad Q) args s 0 0 (fA I ad)) (F0 m 0 ls []) := by
  have hx := C.1
  have hb := C.2.1
  have hown := C.2.2.2.1
  have hts := C.2.2.2.2.1
  intro M H locs ls hw hP hS hl
  unfold w_X3_termAt at hw
  refine lv_aload_n (pc := 0) hx hb dX3_termAt_0 rfl (lv_at hl 0 rfl) ?_
  refine gf_222 (pc := 1) C hP h0 dX3_termAt_1 ?_
  refine gf_181 (pc := 4) C hP (cl_18_0 hC h0) dX3_termAt_4 ?_
  refine lv_iload_n (pc := 7) hx hb dX3_termAt_7 rfl (lv_at hl 1 rfl) ?_
  refine r_ialdK (pc := 8) (n := 60) (k := a1.toNatClampNeg) C hP (cl_11_1 hC (cl_18_0 hC h0)) (fun _ _ _ _ => rfl) hw.1 rfl dX3_termAt_8 ?_
  replace hw := hw.2
  refine lv_topi (fun x3_9 ex3_9 => ?_)
  replace hw := hw x3_9 ex3_9
  refine lv_istore_n (pc := 9) (lv' := [(3, .int x3_9), (0, .ref (ad (18, 0, 0, 0))), (1, .int a1), (2, .ref (ad r2))]) hx hb dX3_termAt_9 rfl hl (by decide) rfl (fun ls hl => ?_)
  refine lv_iload_n (pc := 10) hx hb dX3_termAt_10 rfl (lv_at hl 0 rfl) ?_
  refine r_cNI (pc := 11) (rest := []) (As := [.int x3_9]) C hl.1 hP hS (k_X8_isLetter l G hC  hw) (List.mem_of_getElem? (i := 8) rfl) mw_439 mw_56 mw_440 ⟨rfl, rfl⟩ hd_X8_isLetter rfl rfl ⟨Nat.le_of_ble_eq_true rfl, Nat.le_of_ble_eq_true rfl⟩ (Nat.le_of_ble_eq_true rfl) ⟨Nat.zero_le _, Nat.zero_le _⟩ dX3_termAt_11 (fun r11 M11 H locs hw hP hS => ?_)
  refine lv_if_eq (pc := 14) (tgt := 43) hx hb dX3_termAt_14 (by decide) (fun h => ?_) (fun h => ?_)
  · replace hw := if_t h hw
    refine lv_iload_n (pc := 43) hx hb dX3_termAt_43 rfl (lv_at hl 0 rfl) ?_
    refine r_cNI (pc := 44) (rest := []) (As := [.int x3_9]) C hl.1 hP hS (k_X8_isFigure l G hC  hw) (List.mem_of_getElem? (i := 9) rfl) mw_442 mw_56 mw_443 ⟨rfl, rfl⟩ hd_X8_isFigure rfl rfl ⟨Nat.le_of_ble_eq_true rfl, Nat.le_of_ble_eq_true rfl⟩ (Nat.le_of_ble_eq_true rfl) ⟨Nat.zero_le _, Nat.zero_le _⟩ dX3_termAt_44 (fun r44 M44 H locs hw hP hS => ?_)
    refine lv_if_ne (pc := 47) (tgt := 56) hx hb dX3_termAt_47 (by decide) (fun h => ?_) (fun h => ?_)
    · replace hw := if_f h hw
      refine lv_aload_n (pc := 56) hx hb dX3_termAt_56 rfl (lv_at hl 1 rfl) ?_
      refine gf_222 (pc := 57) C hP h0 dX3_termAt_57 ?_
      refine gf_191 (pc := 60) C hP (cl_18_0 hC h0) dX3_termAt_60 ?_
      refine lv_iload_n (pc := 63) hx hb dX3_termAt_63 rfl (lv_at hl 2 rfl) ?_
      refine r_ialdK (pc := 64) (n := 60) (k := a1.toNatClampNeg) C hP (cl_11_4 hC (cl_18_0 hC h0)) (fun _ _ _ _ => rfl) hw.1 rfl dX3_termAt_64 ?_
      replace hw := hw.2
      exact r_iret (pc := 65) C hP hS hw dX3_termAt_65
    · replace hw := if_t h hw
      refine lv_iload_n (pc := 50) hx hb dX3_termAt_50 rfl (lv_at hl 0 rfl) ?_
      refine lv_bipush (pc := 51) (v := (35 : Int32)) hx hb dX3_termAt_51 (by decide) ?_
      refine lv_icmp_ne (pc := 53) (tgt := 66) hx hb dX3_termAt_53 (by decide) (fun h => ?_) (fun h => ?_)
      · replace hw := if_f h hw
        refine lv_aload_n (pc := 66) hx hb dX3_termAt_66 rfl (lv_at hl 1 rfl) ?_
        refine gf_223 (pc := 67) C hP h0 dX3_termAt_67 ?_
        refine lv_iload_n (pc := 70) hx hb dX3_termAt_70 rfl (lv_at hl 2 rfl) ?_
        refine lv_iconst (pc := 71) (v := (1 : Int32)) hx hb dX3_termAt_71 (by decide) ?_
        refine lv_iadd (pc := 72) hx hb dX3_termAt_72 ?_
        refine r_cNI (pc := 73) (rest := []) (As := [.ref (ad (19, 0, 0, 0)), .int (a1 + (1 : Int32))]) C hl.1 hP hS (k_X8_at l G hC (cl_18_1 hC h0) (fun _ _ _ _ => rfl) hw) (List.mem_of_getElem? (i := 4) rfl) mw_453 mw_56 mw_454 ⟨rfl, rfl⟩ hd_X8_at rfl rfl ⟨Nat.le_of_ble_eq_true rfl, Nat.le_of_ble_eq_true rfl⟩ (Nat.le_of_ble_eq_true rfl) ⟨Nat.zero_le _, Nat.zero_le _⟩ dX3_termAt_73 (fun r73 M73 H locs hw hP hS => ?_)
        refine lv_istore (pc := 76) (lv' := [(4, .int r73), (3, .int x3_9), (0, .ref (ad (18, 0, 0, 0))), (1, .int a1), (2, .ref (ad r2))]) hx hb dX3_termAt_76 hl (by decide) rfl (fun ls hl => ?_)
        refine lv_iload (pc := 78) hx hb dX3_termAt_78 (lv_at hl 0 rfl) ?_
        refine lv_ldc (pc := 80) (own := RX3) (v := (-2000000 : Int32)) hx hb hown (hts _ mw_505) dX3_termAt_80 ?_
        refine lv_icmp_ne (pc := 82) (tgt := 88) hx hb dX3_termAt_82 (by decide) (fun h => ?_) (fun h => ?_)
        · replace hw := if_f h hw
          refine lv_iload_n (pc := 88) hx hb dX3_termAt_88 rfl (lv_at hl 1 rfl) ?_
          refine lv_bipush (pc := 89) (v := (126 : Int32)) hx hb dX3_termAt_89 (by decide) ?_
          refine lv_icmp_ne (pc := 91) (tgt := 98) hx hb dX3_termAt_91 (by decide) (fun h => ?_) (fun h => ?_)
          · replace hw := if_f h hw
            refine lv_iload_n (pc := 98) hx hb dX3_termAt_98 rfl (lv_at hl 1 rfl) ?_
            refine lv_bipush (pc := 99) (v := (121 : Int32)) hx hb dX3_termAt_99 (by decide) ?_
            refine lv_icmp_ne (pc := 101) (tgt := 108) hx hb dX3_termAt_101 (by decide) (fun h => ?_) (fun h => ?_)
            · replace hw := if_f h hw
              refine lv_iload_n (pc := 108) hx hb dX3_termAt_108 rfl (lv_at hl 1 rfl) ?_
              refine lv_bipush (pc := 109) (v := (37 : Int32)) hx hb dX3_termAt_109 (by decide) ?_
              refine lv_icmp_ne (pc := 111) (tgt := 141) hx hb dX3_termAt_111 (by decide) (fun h => ?_) (fun h => ?_)
              · replace hw := if_f h hw
                refine lv_aload_n (pc := 141) hx hb dX3_termAt_141 rfl (lv_at hl 2 rfl) ?_
                refine gf_223 (pc := 142) C hP h0 dX3_termAt_142 ?_
                refine lv_aload_n (pc := 145) hx hb dX3_termAt_145 rfl (lv_at hl 2 rfl) ?_
                refine gf_222 (pc := 146) C hP h0 dX3_termAt_146 ?_
                refine gf_189 (pc := 149) C hP (cl_18_0 hC h0) dX3_termAt_149 ?_
                refine lv_iload_n (pc := 152) hx hb dX3_termAt_152 rfl (lv_at hl 3 rfl) ?_
                refine r_ialdK (pc := 153) (n := 60) (k := a1.toNatClampNeg) C hP (cl_11_3 hC (cl_18_0 hC h0)) (fun _ _ _ _ => rfl) hw.1 rfl dX3_termAt_153 ?_
                replace hw := hw.2
                refine r_cNI (pc := 154) (rest := []) (As := [.ref (ad (19, 0, 0, 0)), .int (M73.1 (14, 0, 0, 0) a1.toNatClampNeg)]) C hl.1 hP hS (k_X8_at l G hC (cl_18_1 hC h0) (fun _ _ _ _ => rfl) hw) (List.mem_of_getElem? (i := 4) rfl) mw_453 mw_56 mw_454 ⟨rfl, rfl⟩ hd_X8_at rfl rfl ⟨Nat.le_of_ble_eq_true rfl, Nat.le_of_ble_eq_true rfl⟩ (Nat.le_of_ble_eq_true rfl) ⟨Nat.zero_le _, Nat.zero_le _⟩ dX3_termAt_154 (fun r154 M154 H locs hw hP hS => ?_)
                refine lv_istore (pc := 157) (lv' := [(5, .int r154), (4, .int r73), (3, .int x3_9), (0, .ref (ad (18, 0, 0, 0))), (1, .int a1), (2, .ref (ad r2))]) hx hb dX3_termAt_157 hl (by decide) rfl (fun ls hl => ?_)
                refine lv_iload (pc := 159) hx hb dX3_termAt_159 (lv_at hl 0 rfl) ?_
                refine lv_ldc (pc := 161) (own := RX3) (v := (-2000000 : Int32)) hx hb hown (hts _ mw_505) dX3_termAt_161 ?_
                refine lv_icmp_ne (pc := 163) (tgt := 171) hx hb dX3_termAt_163 (by decide) (fun h => ?_) (fun h => ?_)
                · replace hw := if_f h hw
                  refine lv_iload_n (pc := 171) hx hb dX3_termAt_171 rfl (lv_at hl 2 rfl) ?_
                  refine lv_iload (pc := 172) hx hb dX3_termAt_172 (lv_at hl 1 rfl) ?_
                  refine lv_iload (pc := 174) hx hb dX3_termAt_174 (lv_at hl 0 rfl) ?_
                  refine r_cNI (pc := 176) (rest := []) (As := [.int x3_9, .int r73, .int r154]) C hl.1 hP hS (k_X8_sumOf l G hC  hw) (List.mem_of_getElem? (i := 10) rfl) mw_513 mw_56 mw_514 ⟨rfl, rfl⟩ hd_X8_sumOf rfl rfl ⟨Nat.le_of_ble_eq_true rfl, Nat.le_of_ble_eq_true rfl⟩ (Nat.le_of_ble_eq_true rfl) ⟨Nat.zero_le _, Nat.zero_le _⟩ dX3_termAt_176 (fun r176 M176 H locs hw hP hS => ?_)
                  exact r_iret (pc := 179) C hP hS hw dX3_termAt_179
                · replace hw := if_t h hw
                  refine lv_ldc (pc := 166) (own := RX3) (v := (-2000000 : Int32)) hx hb hown (hts _ mw_505) dX3_termAt_166 ?_
                  refine lv_goto (pc := 168) (tgt := 179) hx hb dX3_termAt_168 (by decide) ?_
                  exact r_iret (pc := 179) C hP hS hw dX3_termAt_179
              · replace hw := if_t h hw
                refine lv_aload_n (pc := 114) hx hb dX3_termAt_114 rfl (lv_at hl 2 rfl) ?_
                refine gf_222 (pc := 115) C hP h0 dX3_termAt_115 ?_
                refine gf_191 (pc := 118) C hP (cl_18_0 hC h0) dX3_termAt_118 ?_
                refine lv_iload_n (pc := 121) hx hb dX3_termAt_121 rfl (lv_at hl 3 rfl) ?_
                refine r_ialdK (pc := 122) (n := 60) (k := a1.toNatClampNeg) C hP (cl_11_4 hC (cl_18_0 hC h0)) (fun _ _ _ _ => rfl) hw.1 rfl dX3_termAt_122 ?_
                replace hw := hw.2
                refine lv_topi (fun x5_123 ex5_123 => ?_)
                replace hw := hw x5_123 ex5_123
                refine lv_istore (pc := 123) (lv' := [(5, .int x5_123), (4, .int r73), (3, .int x3_9), (0, .ref (ad (18, 0, 0, 0))), (1, .int a1), (2, .ref (ad r2))]) hx hb dX3_termAt_123 hl (by decide) rfl (fun ls hl => ?_)
                refine lv_iload (pc := 125) hx hb dX3_termAt_125 (lv_at hl 0 rfl) ?_
                refine lv_iconst (pc := 127) (v := (1 : Int32)) hx hb dX3_termAt_127 (by decide) ?_
                refine lv_icmp_ge (pc := 128) (tgt := 135) hx hb dX3_termAt_128 (by decide) (fun h => ?_) (fun h => ?_)
                · replace hw := if_t h hw
                  refine lv_iload (pc := 135) hx hb dX3_termAt_135 (lv_at hl 1 rfl) ?_
                  refine lv_iload (pc := 137) hx hb dX3_termAt_137 (lv_at hl 0 rfl) ?_
                  refine lv_irem (pc := 139) hx hb dX3_termAt_139 hw.1 ?_
                  replace hw := hw.2
                  exact r_iret (pc := 140) C hP hS hw dX3_termAt_140
                · replace hw := if_f h hw
                  refine lv_iconst (pc := 131) (v := (0 : Int32)) hx hb dX3_termAt_131 (by decide) ?_
                  refine lv_goto (pc := 132) (tgt := 140) hx hb dX3_termAt_132 (by decide) ?_
                  exact r_iret (pc := 140) C hP hS hw dX3_termAt_140
            · replace hw := if_t h hw
              refine lv_iload (pc := 104) hx hb dX3_termAt_104 (lv_at hl 0 rfl) ?_
              refine lv_i2b (pc := 106) hx hb dX3_termAt_106 rfl ?_
              exact r_iret (pc := 107) C hP hS hw dX3_termAt_107
          · replace hw := if_t h hw
            refine lv_iload (pc := 94) hx hb dX3_termAt_94 (lv_at hl 0 rfl) ?_
            refine lv_ineg (pc := 96) hx hb dX3_termAt_96 ?_
            exact r_iret (pc := 97) C hP hS hw dX3_termAt_97
        · replace hw := if_t h hw
          refine lv_ldc (pc := 85) (own := RX3) (v := (-2000000 : Int32)) hx hb hown (hts _ mw_505) dX3_termAt_85 ?_
          exact r_iret (pc := 87) C hP hS hw dX3_termAt_87
      · replace hw := if_t h hw
        refine lv_aload_n (pc := 56) hx hb dX3_termAt_56 rfl (lv_at hl 1 rfl) ?_
        refine gf_222 (pc := 57) C hP h0 dX3_termAt_57 ?_
        refine gf_191 (pc := 60) C hP (cl_18_0 hC h0) dX3_termAt_60 ?_
        refine lv_iload_n (pc := 63) hx hb dX3_termAt_63 rfl (lv_at hl 2 rfl) ?_
        refine r_ialdK (pc := 64) (n := 60) (k := a1.toNatClampNeg) C hP (cl_11_4 hC (cl_18_0 hC h0)) (fun _ _ _ _ => rfl) hw.1 rfl dX3_termAt_64 ?_
        replace hw := hw.2
        exact r_iret (pc := 65) C hP hS hw dX3_termAt_65
  · replace hw := if_f h hw
    refine lv_aload_n (pc := 17) hx hb dX3_termAt_17 rfl (lv_at hl 3 rfl) ?_
    refine lv_iload_n (pc := 18) hx hb dX3_termAt_18 rfl (lv_at hl 0 rfl) ?_
    refine lv_bipush (pc := 19) (v := (97 : Int32)) hx hb dX3_termAt_19 (by decide) ?_
    refine lv_isub (pc := 21) hx hb dX3_termAt_21 ?_
    refine r_cNI (pc := 22) (rest := []) (As := [.ref (ad r2), .int (x3_9 - (97 : Int32))]) C hl.1 hP hS (k_X8_at l G hC hr2 hn2 hw) (List.mem_of_getElem? (i := 4) rfl) mw_453 mw_56 mw_454 ⟨rfl, rfl⟩ hd_X8_at rfl rfl ⟨Nat.le_of_ble_eq_true rfl, Nat.le_of_ble_eq_true rfl⟩ (Nat.le_of_ble_eq_true rfl) ⟨Nat.zero_le _, Nat.zero_le _⟩ dX3_termAt_22 (fun r22 M22 H locs hw hP hS => ?_)
    refine lv_istore (pc := 25) (lv' := [(4, .int r22), (3, .int x3_9), (0, .ref (ad (18, 0, 0, 0))), (1, .int a1), (2, .ref (ad r2))]) hx hb dX3_termAt_25 hl (by decide) rfl (fun ls hl => ?_)
    refine lv_iload (pc := 27) hx hb dX3_termAt_27 (lv_at hl 0 rfl) ?_
    refine lv_sipush (pc := 29) (v := (1000 : Int32)) hx hb dX3_termAt_29 (by decide) ?_
    refine lv_icmp_ne (pc := 32) (tgt := 40) hx hb dX3_termAt_32 (by decide) (fun h => ?_) (fun h => ?_)
    · replace hw := if_f h hw
      refine lv_iload (pc := 40) hx hb dX3_termAt_40 (lv_at hl 0 rfl) ?_
      exact r_iret (pc := 42) C hP hS hw dX3_termAt_42
    · replace hw := if_t h hw
      refine lv_ldc (pc := 35) (own := RX3) (v := (-2000000 : Int32)) hx hb hown (hts _ mw_505) dX3_termAt_35 ?_
      refine lv_goto (pc := 37) (tgt := 42) hx hb dX3_termAt_37 (by decide) ?_
      exact r_iret (pc := 42) C hP hS hw dX3_termAt_42
end
theorem k_X3_termAt (l : Launch) (G : GG) {I : ix → Prop} {ad : ix → Nat} (hC : clo I) {a1 : Int32} {r2 : ix} {n2 : Nat} (h0 : I (18, 0, 0, 0)) (hr2 : I r2) (hn2 : isI r2 n2) {Q : Int32 → Mem → Prop} {M : Mem} (hw : w_X3_termAt a1 r2 n2 Q M) : Met l yX3_termAt (wW yX3_termAt cX3_termAt 6 (some .int)) rm_X3_termAt (va_Pc [.ref (ad (18, 0, 0, 0)), .int a1, .ref (ad r2)] (fun U => wd G I ad M U.heap ∧ wK G U)) (qI G I ad Q) 0 0 (fA I ad) := met_of (by decide +kernel) (Nat.le_of_ble_eq_true rfl) (fun p e s m below meth c C hP hS ls hl => j_X3_termAt_0 C hC h0 hr2 hn2 _ _ _ _ hw hP hS hl)
section
variable {p : Program} {l : Launch} {e : Env} {s : State} {m : MethodId} {args : Array Value} {below : List Frame} {meth : Method} {c : Code} 
variable  {G : GG} {I : ix → Prop} {ad : ix → Nat}
set_option maxHeartbeats 4000000 in
set_option maxRecDepth 100000 in
theorem j_X3_truthAt_0 {a1 : Int32} {r2 : ix} {n2 : Nat} (C : cx p s m args meth c cX3_truthAt 7 (some .int) RX3 G) (hC : clo I) (h0 : I (18, 0, 0, 0)) (hr2 : I r2) (hn2 : isI r2 n2) {Q : Int32 → Mem → Prop} : ∀ (M : Mem) (H : Heap) (locs : List Loc) (ls : Array Slot), w_X3_truthAt a1 r2 n2 Q M → wd G I ad M H → va_S (fA I ad) s.heap H locs → lv_has ls 7 [(0, .ref (ad (18, 0, 0, 0))), (1, .int a1), (2, .ref (ad r2))] → W p l e rm_X3_truthAt s m args below meth c H locs 0 0 (MQ below (qI G I ad Q) args s 0 0 (fA I ad)) (F0 m 0 ls []) := by
  have hx := C.1
  have hb := C.2.1
  have hown := C.2.2.2.1
  have hts := C.2.2.2.2.1
  intro M H locs ls hw hP hS hl
  unfold w_X3_truthAt at hw
  refine lv_aload_n (pc := 0) hx hb dX3_truthAt_0 rfl (lv_at hl 0 rfl) ?_
  refine gf_222 (pc := 1) C hP h0 dX3_truthAt_1 ?_
  refine gf_181 (pc := 4) C hP (cl_18_0 hC h0) dX3_truthAt_4 ?_
  refine lv_iload_n (pc := 7) hx hb dX3_truthAt_7 rfl (lv_at hl 1 rfl) ?_
  refine r_ialdK (pc := 8) (n := 60) (k := a1.toNatClampNeg) C hP (cl_11_1 hC (cl_18_0 hC h0)) (fun _ _ _ _ => rfl) hw.1 rfl dX3_truthAt_8 ?_
  replace hw := hw.2
  refine lv_topi (fun x3_9 ex3_9 => ?_)
  replace hw := hw x3_9 ex3_9
  refine lv_istore_n (pc := 9) (lv' := [(3, .int x3_9), (0, .ref (ad (18, 0, 0, 0))), (1, .int a1), (2, .ref (ad r2))]) hx hb dX3_truthAt_9 rfl hl (by decide) rfl (fun ls hl => ?_)
  refine lv_iload_n (pc := 10) hx hb dX3_truthAt_10 rfl (lv_at hl 0 rfl) ?_
  refine lv_bipush (pc := 11) (v := (109 : Int32)) hx hb dX3_truthAt_11 (by decide) ?_
  refine lv_icmp_ne (pc := 13) (tgt := 52) hx hb dX3_truthAt_13 (by decide) (fun h => ?_) (fun h => ?_)
  · replace hw := if_f h hw
    refine lv_aload_n (pc := 52) hx hb dX3_truthAt_52 rfl (lv_at hl 1 rfl) ?_
    refine gf_223 (pc := 53) C hP h0 dX3_truthAt_53 ?_
    refine lv_iload_n (pc := 56) hx hb dX3_truthAt_56 rfl (lv_at hl 2 rfl) ?_
    refine lv_iconst (pc := 57) (v := (1 : Int32)) hx hb dX3_truthAt_57 (by decide) ?_
    refine lv_iadd (pc := 58) hx hb dX3_truthAt_58 ?_
    refine r_cNI (pc := 59) (rest := []) (As := [.ref (ad (19, 0, 0, 0)), .int (a1 + (1 : Int32))]) C hl.1 hP hS (k_X8_at l G hC (cl_18_1 hC h0) (fun _ _ _ _ => rfl) hw) (List.mem_of_getElem? (i := 4) rfl) mw_453 mw_56 mw_454 ⟨rfl, rfl⟩ hd_X8_at rfl rfl ⟨Nat.le_of_ble_eq_true rfl, Nat.le_of_ble_eq_true rfl⟩ (Nat.le_of_ble_eq_true rfl) ⟨Nat.zero_le _, Nat.zero_le _⟩ dX3_truthAt_59 (fun r59 M59 H locs hw hP hS => ?_)
    refine lv_istore (pc := 62) (lv' := [(4, .int r59), (3, .int x3_9), (0, .ref (ad (18, 0, 0, 0))), (1, .int a1), (2, .ref (ad r2))]) hx hb dX3_truthAt_62 hl (by decide) rfl (fun ls hl => ?_)
    refine lv_iload_n (pc := 64) hx hb dX3_truthAt_64 rfl (lv_at hl 1 rfl) ?_
    refine lv_bipush (pc := 65) (v := (33 : Int32)) hx hb dX3_truthAt_65 (by decide) ?_
    refine lv_icmp_ne (pc := 67) (tgt := 76) hx hb dX3_truthAt_67 (by decide) (fun h => ?_) (fun h => ?_)
    · replace hw := if_f h hw
      refine lv_aload_n (pc := 76) hx hb dX3_truthAt_76 rfl (lv_at hl 2 rfl) ?_
      refine gf_223 (pc := 77) C hP h0 dX3_truthAt_77 ?_
      refine lv_aload_n (pc := 80) hx hb dX3_truthAt_80 rfl (lv_at hl 2 rfl) ?_
      refine gf_222 (pc := 81) C hP h0 dX3_truthAt_81 ?_
      refine gf_189 (pc := 84) C hP (cl_18_0 hC h0) dX3_truthAt_84 ?_
      refine lv_iload_n (pc := 87) hx hb dX3_truthAt_87 rfl (lv_at hl 3 rfl) ?_
      refine r_ialdK (pc := 88) (n := 60) (k := a1.toNatClampNeg) C hP (cl_11_3 hC (cl_18_0 hC h0)) (fun _ _ _ _ => rfl) hw.1 rfl dX3_truthAt_88 ?_
      replace hw := hw.2
      refine r_cNI (pc := 89) (rest := []) (As := [.ref (ad (19, 0, 0, 0)), .int (M59.1 (14, 0, 0, 0) a1.toNatClampNeg)]) C hl.1 hP hS (k_X8_at l G hC (cl_18_1 hC h0) (fun _ _ _ _ => rfl) hw) (List.mem_of_getElem? (i := 4) rfl) mw_453 mw_56 mw_454 ⟨rfl, rfl⟩ hd_X8_at rfl rfl ⟨Nat.le_of_ble_eq_true rfl, Nat.le_of_ble_eq_true rfl⟩ (Nat.le_of_ble_eq_true rfl) ⟨Nat.zero_le _, Nat.zero_le _⟩ dX3_truthAt_89 (fun r89 M89 H locs hw hP hS => ?_)
      refine lv_istore (pc := 92) (lv' := [(5, .int r89), (4, .int r59), (3, .int x3_9), (0, .ref (ad (18, 0, 0, 0))), (1, .int a1), (2, .ref (ad r2))]) hx hb dX3_truthAt_92 hl (by decide) rfl (fun ls hl => ?_)
      refine lv_iload_n (pc := 94) hx hb dX3_truthAt_94 rfl (lv_at hl 2 rfl) ?_
      refine lv_bipush (pc := 95) (v := (38 : Int32)) hx hb dX3_truthAt_95 (by decide) ?_
      refine lv_icmp_ne (pc := 97) (tgt := 108) hx hb dX3_truthAt_97 (by decide) (fun h => ?_) (fun h => ?_)
      · replace hw := if_f h hw
        refine lv_iload_n (pc := 108) hx hb dX3_truthAt_108 rfl (lv_at hl 2 rfl) ?_
        refine lv_bipush (pc := 109) (v := (124 : Int32)) hx hb dX3_truthAt_109 (by decide) ?_
        refine lv_icmp_ne (pc := 111) (tgt := 122) hx hb dX3_truthAt_111 (by decide) (fun h => ?_) (fun h => ?_)
        · replace hw := if_f h hw
          refine lv_iload (pc := 122) hx hb dX3_truthAt_122 (lv_at hl 1 rfl) ?_
          refine lv_ldc (pc := 124) (own := RX3) (v := (-2000000 : Int32)) hx hb hown (hts _ mw_505) dX3_truthAt_124 ?_
          refine lv_icmp_eq (pc := 126) (tgt := 136) hx hb dX3_truthAt_126 (by decide) (fun h => ?_) (fun h => ?_)
          · replace hw := if_t h hw
            refine lv_iconst (pc := 136) (v := (2 : Int32)) hx hb dX3_truthAt_136 (by decide) ?_
            exact r_iret (pc := 137) C hP hS hw dX3_truthAt_137
          · replace hw := if_f h hw
            refine lv_iload (pc := 129) hx hb dX3_truthAt_129 (lv_at hl 0 rfl) ?_
            refine lv_ldc (pc := 131) (own := RX3) (v := (-2000000 : Int32)) hx hb hown (hts _ mw_505) dX3_truthAt_131 ?_
            refine lv_icmp_ne (pc := 133) (tgt := 138) hx hb dX3_truthAt_133 (by decide) (fun h => ?_) (fun h => ?_)
            · replace hw := if_f h hw
              refine lv_iload_n (pc := 138) hx hb dX3_truthAt_138 rfl (lv_at hl 2 rfl) ?_
              refine lv_bipush (pc := 139) (v := (60 : Int32)) hx hb dX3_truthAt_139 (by decide) ?_
              refine lv_icmp_ne (pc := 141) (tgt := 159) hx hb dX3_truthAt_141 (by decide) (fun h => ?_) (fun h => ?_)
              · replace hw := if_f h hw
                refine lv_iload (pc := 159) hx hb dX3_truthAt_159 (lv_at hl 1 rfl) ?_
                refine lv_iload (pc := 161) hx hb dX3_truthAt_161 (lv_at hl 0 rfl) ?_
                refine lv_icmp_ne (pc := 163) (tgt := 170) hx hb dX3_truthAt_163 (by decide) (fun h => ?_) (fun h => ?_)
                · replace hw := if_f h hw
                  refine lv_iconst (pc := 170) (v := (0 : Int32)) hx hb dX3_truthAt_170 (by decide) ?_
                  refine lv_istore (pc := 171) (lv' := [(6, .int (0 : Int32)), (5, .int r89), (4, .int r59), (3, .int x3_9), (0, .ref (ad (18, 0, 0, 0))), (1, .int a1), (2, .ref (ad r2))]) hx hb dX3_truthAt_171 hl (by decide) rfl (fun ls hl => ?_)
                  refine lv_iload (pc := 173) hx hb dX3_truthAt_173 (lv_at hl 0 rfl) ?_
                  refine lv_if_eq (pc := 175) (tgt := 182) hx hb dX3_truthAt_175 (by decide) (fun h => ?_) (fun h => ?_)
                  · replace hw := if_t h hw
                    refine lv_iconst (pc := 182) (v := (0 : Int32)) hx hb dX3_truthAt_182 (by decide) ?_
                    exact r_iret (pc := 183) C hP hS hw dX3_truthAt_183
                  · replace hw := if_f h hw
                    refine lv_iconst (pc := 178) (v := (1 : Int32)) hx hb dX3_truthAt_178 (by decide) ?_
                    refine lv_goto (pc := 179) (tgt := 183) hx hb dX3_truthAt_179 (by decide) ?_
                    exact r_iret (pc := 183) C hP hS hw dX3_truthAt_183
                · replace hw := if_t h hw
                  refine lv_iconst (pc := 166) (v := (1 : Int32)) hx hb dX3_truthAt_166 (by decide) ?_
                  refine lv_goto (pc := 167) (tgt := 171) hx hb dX3_truthAt_167 (by decide) ?_
                  refine lv_istore (pc := 171) (lv' := [(6, .int (1 : Int32)), (5, .int r89), (4, .int r59), (3, .int x3_9), (0, .ref (ad (18, 0, 0, 0))), (1, .int a1), (2, .ref (ad r2))]) hx hb dX3_truthAt_171 hl (by decide) rfl (fun ls hl => ?_)
                  refine lv_iload (pc := 173) hx hb dX3_truthAt_173 (lv_at hl 0 rfl) ?_
                  refine lv_if_eq (pc := 175) (tgt := 182) hx hb dX3_truthAt_175 (by decide) (fun h => ?_) (fun h => ?_)
                  · replace hw := if_t h hw
                    refine lv_iconst (pc := 182) (v := (0 : Int32)) hx hb dX3_truthAt_182 (by decide) ?_
                    exact r_iret (pc := 183) C hP hS hw dX3_truthAt_183
                  · replace hw := if_f h hw
                    refine lv_iconst (pc := 178) (v := (1 : Int32)) hx hb dX3_truthAt_178 (by decide) ?_
                    refine lv_goto (pc := 179) (tgt := 183) hx hb dX3_truthAt_179 (by decide) ?_
                    exact r_iret (pc := 183) C hP hS hw dX3_truthAt_183
              · replace hw := if_t h hw
                refine lv_iload (pc := 144) hx hb dX3_truthAt_144 (lv_at hl 1 rfl) ?_
                refine lv_iload (pc := 146) hx hb dX3_truthAt_146 (lv_at hl 0 rfl) ?_
                refine lv_icmp_ge (pc := 148) (tgt := 155) hx hb dX3_truthAt_148 (by decide) (fun h => ?_) (fun h => ?_)
                · replace hw := if_t h hw
                  refine lv_iconst (pc := 155) (v := (0 : Int32)) hx hb dX3_truthAt_155 (by decide) ?_
                  refine lv_goto (pc := 156) (tgt := 171) hx hb dX3_truthAt_156 (by decide) ?_
                  refine lv_istore (pc := 171) (lv' := [(6, .int (0 : Int32)), (5, .int r89), (4, .int r59), (3, .int x3_9), (0, .ref (ad (18, 0, 0, 0))), (1, .int a1), (2, .ref (ad r2))]) hx hb dX3_truthAt_171 hl (by decide) rfl (fun ls hl => ?_)
                  refine lv_iload (pc := 173) hx hb dX3_truthAt_173 (lv_at hl 0 rfl) ?_
                  refine lv_if_eq (pc := 175) (tgt := 182) hx hb dX3_truthAt_175 (by decide) (fun h => ?_) (fun h => ?_)
                  · replace hw := if_t h hw
                    refine lv_iconst (pc := 182) (v := (0 : Int32)) hx hb dX3_truthAt_182 (by decide) ?_
                    exact r_iret (pc := 183) C hP hS hw dX3_truthAt_183
                  · replace hw := if_f h hw
                    refine lv_iconst (pc := 178) (v := (1 : Int32)) hx hb dX3_truthAt_178 (by decide) ?_
                    refine lv_goto (pc := 179) (tgt := 183) hx hb dX3_truthAt_179 (by decide) ?_
                    exact r_iret (pc := 183) C hP hS hw dX3_truthAt_183
                · replace hw := if_f h hw
                  refine lv_iconst (pc := 151) (v := (1 : Int32)) hx hb dX3_truthAt_151 (by decide) ?_
                  refine lv_goto (pc := 152) (tgt := 171) hx hb dX3_truthAt_152 (by decide) ?_
                  refine lv_istore (pc := 171) (lv' := [(6, .int (1 : Int32)), (5, .int r89), (4, .int r59), (3, .int x3_9), (0, .ref (ad (18, 0, 0, 0))), (1, .int a1), (2, .ref (ad r2))]) hx hb dX3_truthAt_171 hl (by decide) rfl (fun ls hl => ?_)
                  refine lv_iload (pc := 173) hx hb dX3_truthAt_173 (lv_at hl 0 rfl) ?_
                  refine lv_if_eq (pc := 175) (tgt := 182) hx hb dX3_truthAt_175 (by decide) (fun h => ?_) (fun h => ?_)
                  · replace hw := if_t h hw
                    refine lv_iconst (pc := 182) (v := (0 : Int32)) hx hb dX3_truthAt_182 (by decide) ?_
                    exact r_iret (pc := 183) C hP hS hw dX3_truthAt_183
                  · replace hw := if_f h hw
                    refine lv_iconst (pc := 178) (v := (1 : Int32)) hx hb dX3_truthAt_178 (by decide) ?_
                    refine lv_goto (pc := 179) (tgt := 183) hx hb dX3_truthAt_179 (by decide) ?_
                    exact r_iret (pc := 183) C hP hS hw dX3_truthAt_183
            · replace hw := if_t h hw
              refine lv_iconst (pc := 136) (v := (2 : Int32)) hx hb dX3_truthAt_136 (by decide) ?_
              exact r_iret (pc := 137) C hP hS hw dX3_truthAt_137
        · replace hw := if_t h hw
          refine lv_iload (pc := 114) hx hb dX3_truthAt_114 (lv_at hl 1 rfl) ?_
          refine lv_iload (pc := 116) hx hb dX3_truthAt_116 (lv_at hl 0 rfl) ?_
          refine r_cNI (pc := 118) (rest := []) (As := [.int r59, .int r89]) C hl.1 hP hS (k_X8_eitherOf l G hC  hw) (List.mem_of_getElem? (i := 7) rfl) mw_503 mw_56 mw_504 ⟨rfl, rfl⟩ hd_X8_eitherOf rfl rfl ⟨Nat.le_of_ble_eq_true rfl, Nat.le_of_ble_eq_true rfl⟩ (Nat.le_of_ble_eq_true rfl) ⟨Nat.zero_le _, Nat.zero_le _⟩ dX3_truthAt_118 (fun r118 M118 H locs hw hP hS => ?_)
          exact r_iret (pc := 121) C hP hS hw dX3_truthAt_121
      · replace hw := if_t h hw
        refine lv_iload (pc := 100) hx hb dX3_truthAt_100 (lv_at hl 1 rfl) ?_
        refine lv_iload (pc := 102) hx hb dX3_truthAt_102 (lv_at hl 0 rfl) ?_
        refine r_cNI (pc := 104) (rest := []) (As := [.int r59, .int r89]) C hl.1 hP hS (k_X8_bothOf l G hC  hw) (List.mem_of_getElem? (i := 6) rfl) mw_500 mw_56 mw_501 ⟨rfl, rfl⟩ hd_X8_bothOf rfl rfl ⟨Nat.le_of_ble_eq_true rfl, Nat.le_of_ble_eq_true rfl⟩ (Nat.le_of_ble_eq_true rfl) ⟨Nat.zero_le _, Nat.zero_le _⟩ dX3_truthAt_104 (fun r104 M104 H locs hw hP hS => ?_)
        exact r_iret (pc := 107) C hP hS hw dX3_truthAt_107
    · replace hw := if_t h hw
      refine lv_iload (pc := 70) hx hb dX3_truthAt_70 (lv_at hl 0 rfl) ?_
      refine r_cNI (pc := 72) (rest := []) (As := [.int r59]) C hl.1 hP hS (k_X8_notOf l G hC  hw) (List.mem_of_getElem? (i := 5) rfl) mw_497 mw_56 mw_498 ⟨rfl, rfl⟩ hd_X8_notOf rfl rfl ⟨Nat.le_of_ble_eq_true rfl, Nat.le_of_ble_eq_true rfl⟩ (Nat.le_of_ble_eq_true rfl) ⟨Nat.zero_le _, Nat.zero_le _⟩ dX3_truthAt_72 (fun r72 M72 H locs hw hP hS => ?_)
      exact r_iret (pc := 75) C hP hS hw dX3_truthAt_75
  · replace hw := if_t h hw
    refine lv_aload_n (pc := 16) hx hb dX3_truthAt_16 rfl (lv_at hl 1 rfl) ?_
    refine gf_222 (pc := 17) C hP h0 dX3_truthAt_17 ?_
    refine gf_181 (pc := 20) C hP (cl_18_0 hC h0) dX3_truthAt_20 ?_
    refine lv_iload_n (pc := 23) hx hb dX3_truthAt_23 rfl (lv_at hl 2 rfl) ?_
    refine lv_iconst (pc := 24) (v := (1 : Int32)) hx hb dX3_truthAt_24 (by decide) ?_
    refine lv_iadd (pc := 25) hx hb dX3_truthAt_25 ?_
    refine r_cNI (pc := 26) (rest := []) (As := [.ref (ad (12, 0, 0, 0)), .int (a1 + (1 : Int32))]) C hl.1 hP hS (k_X8_at l G hC (cl_11_1 hC (cl_18_0 hC h0)) (fun _ _ _ _ => rfl) hw) (List.mem_of_getElem? (i := 4) rfl) mw_453 mw_56 mw_454 ⟨rfl, rfl⟩ hd_X8_at rfl rfl ⟨Nat.le_of_ble_eq_true rfl, Nat.le_of_ble_eq_true rfl⟩ (Nat.le_of_ble_eq_true rfl) ⟨Nat.zero_le _, Nat.zero_le _⟩ dX3_truthAt_26 (fun r26 M26 H locs hw hP hS => ?_)
    refine lv_istore (pc := 29) (lv' := [(4, .int r26), (3, .int x3_9), (0, .ref (ad (18, 0, 0, 0))), (1, .int a1), (2, .ref (ad r2))]) hx hb dX3_truthAt_29 hl (by decide) rfl (fun ls hl => ?_)
    refine lv_aload_n (pc := 31) hx hb dX3_truthAt_31 rfl (lv_at hl 4 rfl) ?_
    refine lv_iload (pc := 32) hx hb dX3_truthAt_32 (lv_at hl 0 rfl) ?_
    refine lv_bipush (pc := 34) (v := (97 : Int32)) hx hb dX3_truthAt_34 (by decide) ?_
    refine lv_isub (pc := 36) hx hb dX3_truthAt_36 ?_
    refine r_cNI (pc := 37) (rest := []) (As := [.ref (ad r2), .int (r26 - (97 : Int32))]) C hl.1 hP hS (k_X8_at l G hC hr2 hn2 hw) (List.mem_of_getElem? (i := 4) rfl) mw_453 mw_56 mw_454 ⟨rfl, rfl⟩ hd_X8_at rfl rfl ⟨Nat.le_of_ble_eq_true rfl, Nat.le_of_ble_eq_true rfl⟩ (Nat.le_of_ble_eq_true rfl) ⟨Nat.zero_le _, Nat.zero_le _⟩ dX3_truthAt_37 (fun r37 M37 H locs hw hP hS => ?_)
    refine lv_sipush (pc := 40) (v := (1000 : Int32)) hx hb dX3_truthAt_40 (by decide) ?_
    refine lv_icmp_ne (pc := 43) (tgt := 50) hx hb dX3_truthAt_43 (by decide) (fun h => ?_) (fun h => ?_)
    · replace hw := if_f h hw
      refine lv_iconst (pc := 50) (v := (0 : Int32)) hx hb dX3_truthAt_50 (by decide) ?_
      exact r_iret (pc := 51) C hP hS hw dX3_truthAt_51
    · replace hw := if_t h hw
      refine lv_iconst (pc := 46) (v := (1 : Int32)) hx hb dX3_truthAt_46 (by decide) ?_
      refine lv_goto (pc := 47) (tgt := 51) hx hb dX3_truthAt_47 (by decide) ?_
      exact r_iret (pc := 51) C hP hS hw dX3_truthAt_51
end
theorem k_X3_truthAt (l : Launch) (G : GG) {I : ix → Prop} {ad : ix → Nat} (hC : clo I) {a1 : Int32} {r2 : ix} {n2 : Nat} (h0 : I (18, 0, 0, 0)) (hr2 : I r2) (hn2 : isI r2 n2) {Q : Int32 → Mem → Prop} {M : Mem} (hw : w_X3_truthAt a1 r2 n2 Q M) : Met l yX3_truthAt (wW yX3_truthAt cX3_truthAt 7 (some .int)) rm_X3_truthAt (va_Pc [.ref (ad (18, 0, 0, 0)), .int a1, .ref (ad r2)] (fun U => wd G I ad M U.heap ∧ wK G U)) (qI G I ad Q) 0 0 (fA I ad) := met_of (by decide +kernel) (Nat.le_of_ble_eq_true rfl) (fun p e s m below meth c C hP hS ls hl => j_X3_truthAt_0 C hC h0 hr2 hn2 _ _ _ _ hw hP hS hl)
section
variable {p : Program} {l : Launch} {e : Env} {s : State} {m : MethodId} {args : Array Value} {below : List Frame} {meth : Method} {c : Code} 
variable  {G : GG} {I : ix → Prop} {ad : ix → Nat}
set_option maxHeartbeats 4000000 in
set_option maxRecDepth 100000 in
theorem j_X3_judge_10 {r1 : ix} {n1 : Nat} (C : cx p s m args meth c cX3_judge 3 (some .int) RX3 G) (hC : clo I) (h0 : I (18, 0, 0, 0)) (hr1 : I r1) (hn1 : isI r1 n1) {Q : Int32 → Mem → Prop} : ∀ (n : Nat), ∀ (x2 : Int32) (M : Mem) (H : Heap) (locs : List Loc) (ls : Array Slot), w_X3_judge_10 r1 n1 Q n x2 M → wd G I ad M H → va_S (fA I ad) s.heap H locs → lv_has ls 3 [(0, .ref (ad (18, 0, 0, 0))), (1, .ref (ad r1)), (2, .int x2)] → W p l e rm_X3_judge s m args below meth c H locs 0 0 (MQ below (qI G I ad Q) args s 0 0 (fA I ad)) (F0 m 10 ls []) := by
  have hx := C.1
  have hb := C.2.1
  have hown := C.2.2.2.1
  have hts := C.2.2.2.2.1
  intro n
  induction n with
  | zero =>
    intro x2 M H locs ls hw hP hS hl
    rw [w_X3_judge_10] at hw
    exact hw.elim
  | succ n ih =>
    intro x2 M H locs ls hw hP hS hl
    rw [w_X3_judge_10] at hw
    refine lv_iload_n (pc := 10) hx hb dX3_judge_10 rfl (lv_at hl 2 rfl) ?_
    refine lv_if_lt (pc := 11) (tgt := 73) hx hb dX3_judge_11 (by decide) (fun h => ?_) (fun h => ?_)
    · replace hw := if_t h hw
      refine lv_aload_n (pc := 73) hx hb dX3_judge_73 rfl (lv_at hl 0 rfl) ?_
      refine gf_223 (pc := 74) C hP h0 dX3_judge_74 ?_
      refine lv_iconst (pc := 77) (v := (0 : Int32)) hx hb dX3_judge_77 (by decide) ?_
      refine r_ialdK (pc := 78) (n := 60) (k := 0) C hP (cl_18_1 hC h0) (fun _ _ _ _ => rfl) (vpc (by decide)) (by decide) dX3_judge_78 ?_
      exact r_iret (pc := 79) C hP hS hw dX3_judge_79
    · replace hw := if_f h hw
      refine lv_aload_n (pc := 14) hx hb dX3_judge_14 rfl (lv_at hl 0 rfl) ?_
      refine gf_222 (pc := 15) C hP h0 dX3_judge_15 ?_
      refine gf_184 (pc := 18) C hP (cl_18_0 hC h0) dX3_judge_18 ?_
      refine lv_iload_n (pc := 21) hx hb dX3_judge_21 rfl (lv_at hl 2 rfl) ?_
      refine r_ialdK (pc := 22) (n := 60) (k := x2.toNatClampNeg) C hP (cl_11_2 hC (cl_18_0 hC h0)) (fun _ _ _ _ => rfl) hw.1 rfl dX3_judge_22 ?_
      replace hw := hw.2
      refine lv_iconst (pc := 23) (v := (1 : Int32)) hx hb dX3_judge_23 (by decide) ?_
      refine lv_icmp_ne (pc := 24) (tgt := 42) hx hb dX3_judge_24 (by decide) (fun h => ?_) (fun h => ?_)
      · replace hw := if_f h hw
        refine lv_aload_n (pc := 42) hx hb dX3_judge_42 rfl (lv_at hl 0 rfl) ?_
        refine gf_222 (pc := 43) C hP h0 dX3_judge_43 ?_
        refine gf_184 (pc := 46) C hP (cl_18_0 hC h0) dX3_judge_46 ?_
        refine lv_iload_n (pc := 49) hx hb dX3_judge_49 rfl (lv_at hl 2 rfl) ?_
        refine r_ialdK (pc := 50) (n := 60) (k := x2.toNatClampNeg) C hP (cl_11_2 hC (cl_18_0 hC h0)) (fun _ _ _ _ => rfl) hw.1 rfl dX3_judge_50 ?_
        replace hw := hw.2
        refine lv_iconst (pc := 51) (v := (2 : Int32)) hx hb dX3_judge_51 (by decide) ?_
        refine lv_icmp_ne (pc := 52) (tgt := 67) hx hb dX3_judge_52 (by decide) (fun h => ?_) (fun h => ?_)
        · replace hw := if_f h hw
          refine lv_iinc (pc := 67) (v := x2 + (-1)) (lv' := [(2, .int (x2 + (-1))), (0, .ref (ad (18, 0, 0, 0))), (1, .ref (ad r1))]) hx hb dX3_judge_67 hl (k := 2) rfl rfl (by decide) rfl (fun ls hl => ?_)
          refine lv_goto (pc := 70) (tgt := 10) hx hb dX3_judge_70 (by decide) ?_
          exact ih (x2 + (-1)) M _ _ _ hw hP hS (lv_sub hl [1, 2, 0] rfl)
        · replace hw := if_t h hw
          refine lv_aload_n (pc := 55) hx hb dX3_judge_55 rfl (lv_at hl 0 rfl) ?_
          refine gf_223 (pc := 56) C hP h0 dX3_judge_56 ?_
          refine lv_iload_n (pc := 59) hx hb dX3_judge_59 rfl (lv_at hl 2 rfl) ?_
          refine lv_aload_n (pc := 60) hx hb dX3_judge_60 rfl (lv_at hl 0 rfl) ?_
          refine lv_iload_n (pc := 61) hx hb dX3_judge_61 rfl (lv_at hl 2 rfl) ?_
          refine lv_aload_n (pc := 62) hx hb dX3_judge_62 rfl (lv_at hl 1 rfl) ?_
          refine r_cVI (pc := 63) (rest := [.int x2, .ref (ad (19, 0, 0, 0))]) (As := [.int x2, .ref (ad r1)]) C hl.1 hP hS (k_X3_termAt l G hC h0 hr1 hn1 hw) h0 rfl rfl mw_506 mw_508 mw_12 mw_61 mw_509 ⟨rfl, rfl⟩ hd_X3_termAt rfl rfl ⟨Nat.le_of_ble_eq_true rfl, Nat.le_of_ble_eq_true rfl⟩ (Nat.le_of_ble_eq_true rfl) ⟨Nat.zero_le _, Nat.zero_le _⟩ dX3_judge_63 (fun r63 M63 H locs hw hP hS => ?_)
          refine r_iastK (pc := 66) (n := 60) (k := x2.toNatClampNeg) C hP hS (cl_18_1 hC h0) (fun _ _ _ _ => rfl) hw.1 rfl dX3_judge_66 (fun H locs hP hS => ?_)
          replace hw := hw.2
          refine lv_iinc (pc := 67) (v := x2 + (-1)) (lv' := [(2, .int (x2 + (-1))), (0, .ref (ad (18, 0, 0, 0))), (1, .ref (ad r1))]) hx hb dX3_judge_67 hl (k := 2) rfl rfl (by decide) rfl (fun ls hl => ?_)
          refine lv_goto (pc := 70) (tgt := 10) hx hb dX3_judge_70 (by decide) ?_
          exact ih (x2 + (-1)) (mu M63 (19, 0, 0, 0) (x2.toNatClampNeg) r63) _ _ _ hw hP hS (lv_sub hl [1, 2, 0] rfl)
      · replace hw := if_t h hw
        refine lv_aload_n (pc := 27) hx hb dX3_judge_27 rfl (lv_at hl 0 rfl) ?_
        refine gf_223 (pc := 28) C hP h0 dX3_judge_28 ?_
        refine lv_iload_n (pc := 31) hx hb dX3_judge_31 rfl (lv_at hl 2 rfl) ?_
        refine lv_aload_n (pc := 32) hx hb dX3_judge_32 rfl (lv_at hl 0 rfl) ?_
        refine lv_iload_n (pc := 33) hx hb dX3_judge_33 rfl (lv_at hl 2 rfl) ?_
        refine lv_aload_n (pc := 34) hx hb dX3_judge_34 rfl (lv_at hl 1 rfl) ?_
        refine r_cVI (pc := 35) (rest := [.int x2, .ref (ad (19, 0, 0, 0))]) (As := [.int x2, .ref (ad r1)]) C hl.1 hP hS (k_X3_truthAt l G hC h0 hr1 hn1 hw) h0 rfl rfl mw_491 mw_493 mw_11 mw_61 mw_494 ⟨rfl, rfl⟩ hd_X3_truthAt rfl rfl ⟨Nat.le_of_ble_eq_true rfl, Nat.le_of_ble_eq_true rfl⟩ (Nat.le_of_ble_eq_true rfl) ⟨Nat.zero_le _, Nat.zero_le _⟩ dX3_judge_35 (fun r35 M35 H locs hw hP hS => ?_)
        refine r_iastK (pc := 38) (n := 60) (k := x2.toNatClampNeg) C hP hS (cl_18_1 hC h0) (fun _ _ _ _ => rfl) hw.1 rfl dX3_judge_38 (fun H locs hP hS => ?_)
        replace hw := hw.2
        refine lv_goto (pc := 39) (tgt := 67) hx hb dX3_judge_39 (by decide) ?_
        refine lv_iinc (pc := 67) (v := x2 + (-1)) (lv' := [(2, .int (x2 + (-1))), (0, .ref (ad (18, 0, 0, 0))), (1, .ref (ad r1))]) hx hb dX3_judge_67 hl (k := 2) rfl rfl (by decide) rfl (fun ls hl => ?_)
        refine lv_goto (pc := 70) (tgt := 10) hx hb dX3_judge_70 (by decide) ?_
        exact ih (x2 + (-1)) (mu M35 (19, 0, 0, 0) (x2.toNatClampNeg) r35) _ _ _ hw hP hS (lv_sub hl [1, 2, 0] rfl)
set_option maxHeartbeats 4000000 in
set_option maxRecDepth 100000 in
theorem j_X3_judge_0 {r1 : ix} {n1 : Nat} (C : cx p s m args meth c cX3_judge 3 (some .int) RX3 G) (hC : clo I) (h0 : I (18, 0, 0, 0)) (hr1 : I r1) (hn1 : isI r1 n1) {Q : Int32 → Mem → Prop} : ∀ (M : Mem) (H : Heap) (locs : List Loc) (ls : Array Slot), w_X3_judge r1 n1 Q M → wd G I ad M H → va_S (fA I ad) s.heap H locs → lv_has ls 3 [(0, .ref (ad (18, 0, 0, 0))), (1, .ref (ad r1))] → W p l e rm_X3_judge s m args below meth c H locs 0 0 (MQ below (qI G I ad Q) args s 0 0 (fA I ad)) (F0 m 0 ls []) := by
  have hx := C.1
  have hb := C.2.1
  have hown := C.2.2.2.1
  have hts := C.2.2.2.2.1
  intro M H locs ls hw hP hS hl
  unfold w_X3_judge at hw
  refine lv_aload_n (pc := 0) hx hb dX3_judge_0 rfl (lv_at hl 0 rfl) ?_
  refine gf_222 (pc := 1) C hP h0 dX3_judge_1 ?_
  refine gf_177 (pc := 4) C hP (cl_18_0 hC h0) dX3_judge_4 ?_
  refine lv_iconst (pc := 7) (v := (1 : Int32)) hx hb dX3_judge_7 (by decide) ?_
  refine lv_isub (pc := 8) hx hb dX3_judge_8 ?_
  refine lv_topi (fun x2_9 ex2_9 => ?_)
  replace hw := hw x2_9 ex2_9
  refine lv_istore_n (pc := 9) (lv' := [(2, .int x2_9), (0, .ref (ad (18, 0, 0, 0))), (1, .ref (ad r1))]) hx hb dX3_judge_9 rfl hl (by decide) rfl (fun ls hl => ?_)
  obtain ⟨n0, hw⟩ := hw
  exact j_X3_judge_10 C hC h0 hr1 hn1 n0 x2_9 M _ _ _ hw hP hS (lv_sub hl [1, 2, 0] rfl)
end
theorem k_X3_judge (l : Launch) (G : GG) {I : ix → Prop} {ad : ix → Nat} (hC : clo I) {r1 : ix} {n1 : Nat} (h0 : I (18, 0, 0, 0)) (hr1 : I r1) (hn1 : isI r1 n1) {Q : Int32 → Mem → Prop} {M : Mem} (hw : w_X3_judge r1 n1 Q M) : Met l yX3_judge (wW yX3_judge cX3_judge 3 (some .int)) rm_X3_judge (va_Pc [.ref (ad (18, 0, 0, 0)), .ref (ad r1)] (fun U => wd G I ad M U.heap ∧ wK G U)) (qI G I ad Q) 0 0 (fA I ad) := met_of (by decide +kernel) (Nat.le_of_ble_eq_true rfl) (fun p e s m below meth c C hP hS ls hl => j_X3_judge_0 C hC h0 hr1 hn1 _ _ _ _ hw hP hS hl)
section
variable {p : Program} {l : Launch} {e : Env} {s : State} {m : MethodId} {args : Array Value} {below : List Frame} {meth : Method} {c : Code} 
variable  {G : GG} {I : ix → Prop} {ad : ix → Nat}
set_option maxHeartbeats 4000000 in
set_option maxRecDepth 100000 in
theorem j_X4_clear_0 (C : cx p s m args meth c cX4_clear 1 none RX4 G) (hC : clo I) (h0 : I (26, 0, 0, 0)) {Q : Mem → Prop} : ∀ (M : Mem) (H : Heap) (locs : List Loc) (ls : Array Slot), w_X4_clear Q M → wd G I ad M H → va_S (fA I ad) s.heap H locs → lv_has ls 1 [(0, .ref (ad (26, 0, 0, 0)))] → W p l e rm_X4_clear s m args below meth c H locs 0 0 (MQ below (qV G I ad Q) args s 0 0 (fA I ad)) (F0 m 0 ls []) := by
  have hx := C.1
  have hb := C.2.1
  have hown := C.2.2.2.1
  have hts := C.2.2.2.2.1
  intro M H locs ls hw hP hS hl
  unfold w_X4_clear at hw
  refine lv_aload_n (pc := 0) hx hb dX4_clear_0 rfl (lv_at hl 0 rfl) ?_
  refine lv_iconst (pc := 1) (v := (0 : Int32)) hx hb dX4_clear_1 (by decide) ?_
  refine pf_257 (pc := 2) C hP hS h0 dX4_clear_2 (fun H locs hP hS => ?_)
  exact r_vret (pc := 5) C hP hS hw dX4_clear_5
end
theorem k_X4_clear (l : Launch) (G : GG) {I : ix → Prop} {ad : ix → Nat} (hC : clo I) (h0 : I (26, 0, 0, 0)) {Q : Mem → Prop} {M : Mem} (hw : w_X4_clear Q M) : Met l yX4_clear (wW yX4_clear cX4_clear 1 none) rm_X4_clear (va_Pc [.ref (ad (26, 0, 0, 0))] (fun U => wd G I ad M U.heap ∧ wK G U)) (qV G I ad Q) 0 0 (fA I ad) := met_of (by decide +kernel) (Nat.le_of_ble_eq_true rfl) (fun p e s m below meth c C hP hS ls hl => j_X4_clear_0 C hC h0 _ _ _ _ hw hP hS hl)
section
variable {p : Program} {l : Launch} {e : Env} {s : State} {m : MethodId} {args : Array Value} {below : List Frame} {meth : Method} {c : Code} 
variable  {G : GG} {I : ix → Prop} {ad : ix → Nat}
set_option maxHeartbeats 4000000 in
set_option maxRecDepth 100000 in
theorem j_X4_note_38 {r1 : ix} {n1 : Nat} (C : cx p s m args meth c cX4_note 5 none RX4 G) (hC : clo I) (h0 : I (26, 0, 0, 0)) (hr1 : I r1) (hn1 : isI r1 n1) {Q : Mem → Prop} : ∀ (n : Nat), ∀ (x2 : Int64) (x4 : Int32) (M : Mem) (H : Heap) (locs : List Loc) (ls : Array Slot), w_X4_note_38 r1 n1 Q n x2 x4 M → wd G I ad M H → va_S (fA I ad) s.heap H locs → lv_has ls 5 [(0, .ref (ad (26, 0, 0, 0))), (2, .long x2), (4, .int x4)] → W p l e rm_X4_note s m args below meth c H locs 0 0 (MQ below (qV G I ad Q) args s 0 0 (fA I ad)) (F0 m 38 ls []) := by
  have hx := C.1
  have hb := C.2.1
  have hown := C.2.2.2.1
  have hts := C.2.2.2.2.1
  intro n
  induction n with
  | zero =>
    intro x2 x4 M H locs ls hw hP hS hl
    rw [w_X4_note_38] at hw
    exact hw.elim
  | succ n ih =>
    intro x2 x4 M H locs ls hw hP hS hl
    rw [w_X4_note_38] at hw
    refine lv_iload (pc := 38) hx hb dX4_note_38 (lv_at hl 2 rfl) ?_
    refine lv_aload_n (pc := 40) hx hb dX4_note_40 rfl (lv_at hl 0 rfl) ?_
    refine gf_257 (pc := 41) C hP h0 dX4_note_41 ?_
    refine lv_icmp_ge (pc := 44) (tgt := 66) hx hb dX4_note_44 (by decide) (fun h => ?_) (fun h => ?_)
    · replace hw := if_t h hw
      refine lv_aload_n (pc := 66) hx hb dX4_note_66 rfl (lv_at hl 0 rfl) ?_
      refine gf_257 (pc := 67) C hP h0 dX4_note_67 ?_
      refine lv_aload_n (pc := 70) hx hb dX4_note_70 rfl (lv_at hl 0 rfl) ?_
      refine gf_259 (pc := 71) C hP h0 dX4_note_71 ?_
      refine r_alenL (pc := 74) C hP (cl_26_1 hC h0) dX4_note_74 ?_
      refine lv_icmp_ge (pc := 75) (tgt := 98) hx hb dX4_note_75 (by decide) (fun h => ?_) (fun h => ?_)
      · replace hw := if_t h hw
        exact r_vret (pc := 98) C hP hS hw dX4_note_98
      · replace hw := if_f h hw
        refine lv_aload_n (pc := 78) hx hb dX4_note_78 rfl (lv_at hl 0 rfl) ?_
        refine gf_259 (pc := 79) C hP h0 dX4_note_79 ?_
        refine lv_aload_n (pc := 82) hx hb dX4_note_82 rfl (lv_at hl 0 rfl) ?_
        refine gf_257 (pc := 83) C hP h0 dX4_note_83 ?_
        refine lv_lload_n (pc := 86) hx hb dX4_note_86 rfl (lv_at hl 1 rfl) ?_
        refine r_last (pc := 87) C hP hS (cl_26_1 hC h0) (cl_27 hC) hw.1 dX4_note_87 (fun H locs hP hS => ?_)
        replace hw := hw.2
        refine lv_aload_n (pc := 88) hx hb dX4_note_88 rfl (lv_at hl 0 rfl) ?_
        refine lv_dup (pc := 89) hx hb dX4_note_89 rfl ?_
        refine gf_257 (pc := 90) C hP h0 dX4_note_90 ?_
        refine lv_iconst (pc := 93) (v := (1 : Int32)) hx hb dX4_note_93 (by decide) ?_
        refine lv_iadd (pc := 94) hx hb dX4_note_94 ?_
        refine pf_257 (pc := 95) C hP hS h0 dX4_note_95 (fun H locs hP hS => ?_)
        obtain ⟨M95, eM95⟩ : ∃ z : Mem, z = (mu (ml M ((M.1 (26, 0, 0, 0) 0).toNatClampNeg) x2) (26, 0, 0, 0) 0 (((ml M ((M.1 (26, 0, 0, 0) 0).toNatClampNeg) x2).1 (26, 0, 0, 0) 0) + (1 : Int32))) := ⟨_, rfl⟩
        replace hP : wd G I ad M95 H := by rw [eM95]; exact hP
        replace hw := hw M95 eM95
        exact r_vret (pc := 98) C hP hS hw dX4_note_98
    · replace hw := if_f h hw
      refine lv_aload_n (pc := 47) hx hb dX4_note_47 rfl (lv_at hl 0 rfl) ?_
      refine gf_259 (pc := 48) C hP h0 dX4_note_48 ?_
      refine lv_iload (pc := 51) hx hb dX4_note_51 (lv_at hl 2 rfl) ?_
      refine r_lald (pc := 53) C hP (cl_26_1 hC h0) hw.1 dX4_note_53 ?_
      replace hw := hw.2
      refine lv_lload_n (pc := 54) hx hb dX4_note_54 rfl (lv_at hl 1 rfl) ?_
      refine W.lcmp (pc := 55) hx hb dX4_note_55 ?_
      refine lv_if_ne (pc := 56) (tgt := 60) hx hb dX4_note_56 (by decide) (fun h => ?_) (fun h => ?_)
      · replace hw := if_f h hw
        refine lv_iinc (pc := 60) (v := x4 + 1) (lv' := [(4, .int (x4 + 1)), (0, .ref (ad (26, 0, 0, 0))), (2, .long x2)]) hx hb dX4_note_60 hl (k := 2) rfl rfl (by decide) rfl (fun ls hl => ?_)
        refine lv_goto (pc := 63) (tgt := 38) hx hb dX4_note_63 (by decide) ?_
        exact ih x2 (x4 + 1) M _ _ _ hw hP hS (lv_sub hl [1, 2, 0] rfl)
      · replace hw := if_t h hw
        exact r_vret (pc := 59) C hP hS hw dX4_note_59
set_option maxHeartbeats 4000000 in
set_option maxRecDepth 100000 in
theorem j_X4_note_5 {r1 : ix} {n1 : Nat} (C : cx p s m args meth c cX4_note 5 none RX4 G) (hC : clo I) (h0 : I (26, 0, 0, 0)) (hr1 : I r1) (hn1 : isI r1 n1) {Q : Mem → Prop} : ∀ (n : Nat), ∀ (x2 : Int64) (x4 : Int32) (M : Mem) (H : Heap) (locs : List Loc) (ls : Array Slot), w_X4_note_5 r1 n1 Q n x2 x4 M → wd G I ad M H → va_S (fA I ad) s.heap H locs → lv_has ls 5 [(0, .ref (ad (26, 0, 0, 0))), (1, .ref (ad r1)), (2, .long x2), (4, .int x4)] → W p l e rm_X4_note s m args below meth c H locs 0 0 (MQ below (qV G I ad Q) args s 0 0 (fA I ad)) (F0 m 5 ls []) := by
  have hx := C.1
  have hb := C.2.1
  have hown := C.2.2.2.1
  have hts := C.2.2.2.2.1
  intro n
  induction n with
  | zero =>
    intro x2 x4 M H locs ls hw hP hS hl
    rw [w_X4_note_5] at hw
    exact hw.elim
  | succ n ih =>
    intro x2 x4 M H locs ls hw hP hS hl
    rw [w_X4_note_5] at hw
    refine lv_iload (pc := 5) hx hb dX4_note_5 (lv_at hl 3 rfl) ?_
    refine lv_iconst (pc := 7) (v := (4 : Int32)) hx hb dX4_note_7 (by decide) ?_
    refine lv_icmp_ge (pc := 8) (tgt := 35) hx hb dX4_note_8 (by decide) (fun h => ?_) (fun h => ?_)
    · replace hw := if_t h hw
      refine lv_iconst (pc := 35) (v := (0 : Int32)) hx hb dX4_note_35 (by decide) ?_
      refine lv_istore (pc := 36) (lv' := [(4, .int (0 : Int32)), (0, .ref (ad (26, 0, 0, 0))), (1, .ref (ad r1)), (2, .long x2)]) hx hb dX4_note_36 hl (by decide) rfl (fun ls hl => ?_)
      obtain ⟨n0, hw⟩ := hw
      exact j_X4_note_38 C hC h0 hr1 hn1 n0 x2 (0 : Int32) M _ _ _ hw hP hS (lv_sub hl [1, 3, 0] rfl)
    · replace hw := if_f h hw
      refine lv_lload_n (pc := 11) hx hb dX4_note_11 rfl (lv_at hl 2 rfl) ?_
      refine lv_ldc2 (pc := 12) (own := RX4) (v := (2000 : Int64)) hx hb hown (hts _ mw_641) dX4_note_12 ?_
      refine lv_lmul (pc := 15) hx hb dX4_note_15 ?_
      refine lv_aload_n (pc := 16) hx hb dX4_note_16 rfl (lv_at hl 1 rfl) ?_
      refine lv_iload (pc := 17) hx hb dX4_note_17 (lv_at hl 3 rfl) ?_
      refine r_cNI (pc := 19) (rest := [.long (x2 * (2000 : Int64))]) (As := [.ref (ad r1), .int x4]) C hl.1 hP hS (k_X8_at l G hC hr1 hn1 hw) (List.mem_of_getElem? (i := 21) rfl) mw_453 mw_56 mw_454 ⟨rfl, rfl⟩ hd_X8_at rfl rfl ⟨Nat.le_of_ble_eq_true rfl, Nat.le_of_ble_eq_true rfl⟩ (Nat.le_of_ble_eq_true rfl) ⟨Nat.zero_le _, Nat.zero_le _⟩ dX4_note_19 (fun r19 M19 H locs hw hP hS => ?_)
      refine lv_sipush (pc := 22) (v := (-999 : Int32)) hx hb dX4_note_22 (by decide) ?_
      refine lv_isub (pc := 25) hx hb dX4_note_25 ?_
      refine lv_i2l (pc := 26) hx hb dX4_note_26 rfl ?_
      refine lv_ladd (pc := 27) hx hb dX4_note_27 ?_
      refine lv_topl (fun x2_28 ex2_28 => ?_)
      replace hw := hw x2_28 ex2_28
      refine lv_lstore_n (pc := 28) (lv' := [(2, .long x2_28), (0, .ref (ad (26, 0, 0, 0))), (1, .ref (ad r1)), (4, .int x4)]) hx hb dX4_note_28 rfl hl (by decide) rfl (fun ls hl => ?_)
      refine lv_iinc (pc := 29) (v := x4 + 1) (lv' := [(4, .int (x4 + 1)), (2, .long x2_28), (0, .ref (ad (26, 0, 0, 0))), (1, .ref (ad r1))]) hx hb dX4_note_29 hl (k := 3) rfl rfl (by decide) rfl (fun ls hl => ?_)
      refine lv_goto (pc := 32) (tgt := 5) hx hb dX4_note_32 (by decide) ?_
      exact ih x2_28 (x4 + 1) M19 _ _ _ hw hP hS (lv_sub hl [2, 3, 1, 0] rfl)
set_option maxHeartbeats 4000000 in
set_option maxRecDepth 100000 in
theorem j_X4_note_0 {r1 : ix} {n1 : Nat} (C : cx p s m args meth c cX4_note 5 none RX4 G) (hC : clo I) (h0 : I (26, 0, 0, 0)) (hr1 : I r1) (hn1 : isI r1 n1) {Q : Mem → Prop} : ∀ (M : Mem) (H : Heap) (locs : List Loc) (ls : Array Slot), w_X4_note r1 n1 Q M → wd G I ad M H → va_S (fA I ad) s.heap H locs → lv_has ls 5 [(0, .ref (ad (26, 0, 0, 0))), (1, .ref (ad r1))] → W p l e rm_X4_note s m args below meth c H locs 0 0 (MQ below (qV G I ad Q) args s 0 0 (fA I ad)) (F0 m 0 ls []) := by
  have hx := C.1
  have hb := C.2.1
  have hown := C.2.2.2.1
  have hts := C.2.2.2.2.1
  intro M H locs ls hw hP hS hl
  unfold w_X4_note at hw
  refine lv_lconst (pc := 0) (v := (0 : Int64)) hx hb dX4_note_0 (by decide) ?_
  refine lv_lstore_n (pc := 1) (lv' := [(2, .long (0 : Int64)), (0, .ref (ad (26, 0, 0, 0))), (1, .ref (ad r1))]) hx hb dX4_note_1 rfl hl (by decide) rfl (fun ls hl => ?_)
  refine lv_iconst (pc := 2) (v := (0 : Int32)) hx hb dX4_note_2 (by decide) ?_
  refine lv_istore (pc := 3) (lv' := [(4, .int (0 : Int32)), (2, .long (0 : Int64)), (0, .ref (ad (26, 0, 0, 0))), (1, .ref (ad r1))]) hx hb dX4_note_3 hl (by decide) rfl (fun ls hl => ?_)
  obtain ⟨n0, hw⟩ := hw
  exact j_X4_note_5 C hC h0 hr1 hn1 n0 (0 : Int64) (0 : Int32) M _ _ _ hw hP hS (lv_sub hl [2, 3, 1, 0] rfl)
end
theorem k_X4_note (l : Launch) (G : GG) {I : ix → Prop} {ad : ix → Nat} (hC : clo I) {r1 : ix} {n1 : Nat} (h0 : I (26, 0, 0, 0)) (hr1 : I r1) (hn1 : isI r1 n1) {Q : Mem → Prop} {M : Mem} (hw : w_X4_note r1 n1 Q M) : Met l yX4_note (wW yX4_note cX4_note 5 none) rm_X4_note (va_Pc [.ref (ad (26, 0, 0, 0)), .ref (ad r1)] (fun U => wd G I ad M U.heap ∧ wK G U)) (qV G I ad Q) 0 0 (fA I ad) := met_of (by decide +kernel) (Nat.le_of_ble_eq_true rfl) (fun p e s m below meth c C hP hS ls hl => j_X4_note_0 C hC h0 hr1 hn1 _ _ _ _ hw hP hS hl)
section
variable {p : Program} {l : Launch} {e : Env} {s : State} {m : MethodId} {args : Array Value} {below : List Frame} {meth : Method} {c : Code} 
variable  {G : GG} {I : ix → Prop} {ad : ix → Nat}
set_option maxHeartbeats 4000000 in
set_option maxRecDepth 100000 in
theorem j_X5_countRows_4 {s0 : Nat} (C : cx p s m args meth c cX5_countRows 3 (some .int) RX5 G) (hC : clo I) (h0 : I (1, s0, 0, 0)) {Q : Int32 → Mem → Prop} : ∀ (n : Nat), ∀ (x1 : Int32) (x2 : Int32) (M : Mem) (H : Heap) (locs : List Loc) (ls : Array Slot), w_X5_countRows_4 s0 Q n x1 x2 M → wd G I ad M H → va_S (fA I ad) s.heap H locs → lv_has ls 3 [(0, .ref (ad (1, s0, 0, 0))), (1, .int x1), (2, .int x2)] → W p l e rm_X5_countRows s m args below meth c H locs 0 0 (MQ below (qI G I ad Q) args s 0 0 (fA I ad)) (F0 m 4 ls []) := by
  have hx := C.1
  have hb := C.2.1
  have hown := C.2.2.2.1
  have hts := C.2.2.2.2.1
  intro n
  induction n with
  | zero =>
    intro x1 x2 M H locs ls hw hP hS hl
    rw [w_X5_countRows_4] at hw
    exact hw.elim
  | succ n ih =>
    intro x1 x2 M H locs ls hw hP hS hl
    rw [w_X5_countRows_4] at hw
    refine lv_iload_n (pc := 4) hx hb dX5_countRows_4 rfl (lv_at hl 2 rfl) ?_
    refine lv_bipush (pc := 5) (v := (6 : Int32)) hx hb dX5_countRows_5 (by decide) ?_
    refine lv_icmp_ge (pc := 7) (tgt := 28) hx hb dX5_countRows_7 (by decide) (fun h => ?_) (fun h => ?_)
    · replace hw := if_t h hw
      refine lv_iload_n (pc := 28) hx hb dX5_countRows_28 rfl (lv_at hl 1 rfl) ?_
      exact r_iret (pc := 29) C hP hS hw dX5_countRows_29
    · replace hw := if_f h hw
      refine lv_iload_n (pc := 10) hx hb dX5_countRows_10 rfl (lv_at hl 1 rfl) ?_
      refine lv_aload_n (pc := 11) hx hb dX5_countRows_11 rfl (lv_at hl 0 rfl) ?_
      refine gf_155 (pc := 12) C hP h0 dX5_countRows_12 ?_
      refine lv_iload_n (pc := 15) hx hb dX5_countRows_15 rfl (lv_at hl 2 rfl) ?_
      refine r_aald2 (pc := 16) C hP (cl_1_0 hC h0) hw.1 dX5_countRows_16 ?_
      have hi16 := in_lt hw.1
      replace hw := hw.2
      refine gf_137 (pc := 17) C hP (cl_2_e hC (cl_1_0 hC h0) hi16) dX5_countRows_17 ?_
      refine lv_iadd (pc := 20) hx hb dX5_countRows_20 ?_
      refine lv_topi (fun x1_21 ex1_21 => ?_)
      replace hw := hw x1_21 ex1_21
      refine lv_istore_n (pc := 21) (lv' := [(1, .int x1_21), (0, .ref (ad (1, s0, 0, 0))), (2, .int x2)]) hx hb dX5_countRows_21 rfl hl (by decide) rfl (fun ls hl => ?_)
      refine lv_iinc (pc := 22) (v := x2 + 1) (lv' := [(2, .int (x2 + 1)), (1, .int x1_21), (0, .ref (ad (1, s0, 0, 0)))]) hx hb dX5_countRows_22 hl (k := 2) rfl rfl (by decide) rfl (fun ls hl => ?_)
      refine lv_goto (pc := 25) (tgt := 4) hx hb dX5_countRows_25 (by decide) ?_
      exact ih x1_21 (x2 + 1) M _ _ _ hw hP hS (lv_sub hl [2, 1, 0] rfl)
set_option maxHeartbeats 4000000 in
set_option maxRecDepth 100000 in
theorem j_X5_countRows_0 {s0 : Nat} (C : cx p s m args meth c cX5_countRows 3 (some .int) RX5 G) (hC : clo I) (h0 : I (1, s0, 0, 0)) {Q : Int32 → Mem → Prop} : ∀ (M : Mem) (H : Heap) (locs : List Loc) (ls : Array Slot), w_X5_countRows s0 Q M → wd G I ad M H → va_S (fA I ad) s.heap H locs → lv_has ls 3 [(0, .ref (ad (1, s0, 0, 0)))] → W p l e rm_X5_countRows s m args below meth c H locs 0 0 (MQ below (qI G I ad Q) args s 0 0 (fA I ad)) (F0 m 0 ls []) := by
  have hx := C.1
  have hb := C.2.1
  have hown := C.2.2.2.1
  have hts := C.2.2.2.2.1
  intro M H locs ls hw hP hS hl
  unfold w_X5_countRows at hw
  refine lv_iconst (pc := 0) (v := (0 : Int32)) hx hb dX5_countRows_0 (by decide) ?_
  refine lv_istore_n (pc := 1) (lv' := [(1, .int (0 : Int32)), (0, .ref (ad (1, s0, 0, 0)))]) hx hb dX5_countRows_1 rfl hl (by decide) rfl (fun ls hl => ?_)
  refine lv_iconst (pc := 2) (v := (0 : Int32)) hx hb dX5_countRows_2 (by decide) ?_
  refine lv_istore_n (pc := 3) (lv' := [(2, .int (0 : Int32)), (1, .int (0 : Int32)), (0, .ref (ad (1, s0, 0, 0)))]) hx hb dX5_countRows_3 rfl hl (by decide) rfl (fun ls hl => ?_)
  obtain ⟨n0, hw⟩ := hw
  exact j_X5_countRows_4 C hC h0 n0 (0 : Int32) (0 : Int32) M _ _ _ hw hP hS (lv_sub hl [2, 1, 0] rfl)
end
theorem k_X5_countRows (l : Launch) (G : GG) {I : ix → Prop} {ad : ix → Nat} (hC : clo I) {s0 : Nat} (h0 : I (1, s0, 0, 0)) {Q : Int32 → Mem → Prop} {M : Mem} (hw : w_X5_countRows s0 Q M) : Met l yX5_countRows (wW yX5_countRows cX5_countRows 3 (some .int)) rm_X5_countRows (va_Pc [.ref (ad (1, s0, 0, 0))] (fun U => wd G I ad M U.heap ∧ wK G U)) (qI G I ad Q) 0 0 (fA I ad) := met_of (by decide +kernel) (Nat.le_of_ble_eq_true rfl) (fun p e s m below meth c C hP hS ls hl => j_X5_countRows_0 C hC h0 _ _ _ _ hw hP hS hl)
section
variable {p : Program} {l : Launch} {e : Env} {s : State} {m : MethodId} {args : Array Value} {below : List Frame} {meth : Method} {c : Code} 
variable  {G : GG} {I : ix → Prop} {ad : ix → Nat}
set_option maxHeartbeats 4000000 in
set_option maxRecDepth 100000 in
theorem j_X5_copyFrom_2 {s0 : Nat} {s1 : Nat} (C : cx p s m args meth c cX5_copyFrom 3 none RX5 G) (hC : clo I) (h0 : I (1, s0, 0, 0)) (h1 : I (1, s1, 0, 0)) {Q : Mem → Prop} : ∀ (n : Nat), ∀ (x2 : Int32) (M : Mem) (H : Heap) (locs : List Loc) (ls : Array Slot), w_X5_copyFrom_2 s0 s1 Q n x2 M → wd G I ad M H → va_S (fA I ad) s.heap H locs → lv_has ls 3 [(0, .ref (ad (1, s0, 0, 0))), (1, .ref (ad (1, s1, 0, 0))), (2, .int x2)] → W p l e rm_X5_copyFrom s m args below meth c H locs 0 0 (MQ below (qV G I ad Q) args s 0 0 (fA I ad)) (F0 m 2 ls []) := by
  have hx := C.1
  have hb := C.2.1
  have hown := C.2.2.2.1
  have hts := C.2.2.2.2.1
  intro n
  induction n with
  | zero =>
    intro x2 M H locs ls hw hP hS hl
    rw [w_X5_copyFrom_2] at hw
    exact hw.elim
  | succ n ih =>
    intro x2 M H locs ls hw hP hS hl
    rw [w_X5_copyFrom_2] at hw
    refine lv_iload_n (pc := 2) hx hb dX5_copyFrom_2 rfl (lv_at hl 2 rfl) ?_
    refine lv_bipush (pc := 3) (v := (6 : Int32)) hx hb dX5_copyFrom_3 (by decide) ?_
    refine lv_icmp_ge (pc := 5) (tgt := 29) hx hb dX5_copyFrom_5 (by decide) (fun h => ?_) (fun h => ?_)
    · replace hw := if_t h hw
      exact r_vret (pc := 29) C hP hS hw dX5_copyFrom_29
    · replace hw := if_f h hw
      refine lv_aload_n (pc := 8) hx hb dX5_copyFrom_8 rfl (lv_at hl 0 rfl) ?_
      refine gf_155 (pc := 9) C hP h0 dX5_copyFrom_9 ?_
      refine lv_iload_n (pc := 12) hx hb dX5_copyFrom_12 rfl (lv_at hl 2 rfl) ?_
      refine r_aald2 (pc := 13) C hP (cl_1_0 hC h0) hw.1 dX5_copyFrom_13 ?_
      have hi13 := in_lt hw.1
      replace hw := hw.2
      refine lv_aload_n (pc := 14) hx hb dX5_copyFrom_14 rfl (lv_at hl 1 rfl) ?_
      refine gf_155 (pc := 15) C hP h1 dX5_copyFrom_15 ?_
      refine lv_iload_n (pc := 18) hx hb dX5_copyFrom_18 rfl (lv_at hl 2 rfl) ?_
      refine r_aald2 (pc := 19) C hP (cl_1_0 hC h1) hw.1 dX5_copyFrom_19 ?_
      have hi19 := in_lt hw.1
      replace hw := hw.2
      refine r_cVV (pc := 20) (rest := []) (As := [.ref (ad (3, s1, x2.toNatClampNeg, 0))]) C hl.1 hP hS (k_X0_copyFrom l G hC (cl_2_e hC (cl_1_0 hC h0) hi13) (cl_2_e hC (cl_1_0 hC h1) hi19) hw) (cl_2_e hC (cl_1_0 hC h0) hi13) rfl rfl mw_685 mw_686 mw_687 mw_58 mw_688 ⟨rfl, rfl⟩ hd_X0_copyFrom rfl rfl ⟨Nat.le_of_ble_eq_true rfl, Nat.le_of_ble_eq_true rfl⟩ (Nat.le_of_ble_eq_true rfl) ⟨Nat.zero_le _, Nat.zero_le _⟩ dX5_copyFrom_20 (fun M20 H locs hw hP hS => ?_)
      refine lv_iinc (pc := 23) (v := x2 + 1) (lv' := [(2, .int (x2 + 1)), (0, .ref (ad (1, s0, 0, 0))), (1, .ref (ad (1, s1, 0, 0)))]) hx hb dX5_copyFrom_23 hl (k := 2) rfl rfl (by decide) rfl (fun ls hl => ?_)
      refine lv_goto (pc := 26) (tgt := 2) hx hb dX5_copyFrom_26 (by decide) ?_
      exact ih (x2 + 1) M20 _ _ _ hw hP hS (lv_sub hl [1, 2, 0] rfl)
set_option maxHeartbeats 4000000 in
set_option maxRecDepth 100000 in
theorem j_X5_copyFrom_0 {s0 : Nat} {s1 : Nat} (C : cx p s m args meth c cX5_copyFrom 3 none RX5 G) (hC : clo I) (h0 : I (1, s0, 0, 0)) (h1 : I (1, s1, 0, 0)) {Q : Mem → Prop} : ∀ (M : Mem) (H : Heap) (locs : List Loc) (ls : Array Slot), w_X5_copyFrom s0 s1 Q M → wd G I ad M H → va_S (fA I ad) s.heap H locs → lv_has ls 3 [(0, .ref (ad (1, s0, 0, 0))), (1, .ref (ad (1, s1, 0, 0)))] → W p l e rm_X5_copyFrom s m args below meth c H locs 0 0 (MQ below (qV G I ad Q) args s 0 0 (fA I ad)) (F0 m 0 ls []) := by
  have hx := C.1
  have hb := C.2.1
  have hown := C.2.2.2.1
  have hts := C.2.2.2.2.1
  intro M H locs ls hw hP hS hl
  unfold w_X5_copyFrom at hw
  refine lv_iconst (pc := 0) (v := (0 : Int32)) hx hb dX5_copyFrom_0 (by decide) ?_
  refine lv_istore_n (pc := 1) (lv' := [(2, .int (0 : Int32)), (0, .ref (ad (1, s0, 0, 0))), (1, .ref (ad (1, s1, 0, 0)))]) hx hb dX5_copyFrom_1 rfl hl (by decide) rfl (fun ls hl => ?_)
  obtain ⟨n0, hw⟩ := hw
  exact j_X5_copyFrom_2 C hC h0 h1 n0 (0 : Int32) M _ _ _ hw hP hS (lv_sub hl [1, 2, 0] rfl)
end
theorem k_X5_copyFrom (l : Launch) (G : GG) {I : ix → Prop} {ad : ix → Nat} (hC : clo I) {s0 : Nat} {s1 : Nat} (h0 : I (1, s0, 0, 0)) (h1 : I (1, s1, 0, 0)) {Q : Mem → Prop} {M : Mem} (hw : w_X5_copyFrom s0 s1 Q M) : Met l yX5_copyFrom (wW yX5_copyFrom cX5_copyFrom 3 none) rm_X5_copyFrom (va_Pc [.ref (ad (1, s0, 0, 0)), .ref (ad (1, s1, 0, 0))] (fun U => wd G I ad M U.heap ∧ wK G U)) (qV G I ad Q) 0 0 (fA I ad) := met_of (by decide +kernel) (Nat.le_of_ble_eq_true rfl) (fun p e s m below meth c C hP hS ls hl => j_X5_copyFrom_0 C hC h0 h1 _ _ _ _ hw hP hS hl)
section
variable {p : Program} {l : Launch} {e : Env} {s : State} {m : MethodId} {args : Array Value} {below : List Frame} {meth : Method} {c : Code} 
variable  {G : GG} {I : ix → Prop} {ad : ix → Nat}
set_option maxHeartbeats 4000000 in
set_option maxRecDepth 100000 in
theorem j_X7_clear_0 (C : cx p s m args meth c cX7_clear 1 none RX7 G) (hC : clo I) (h0 : I (28, 0, 0, 0)) {Q : Mem → Prop} : ∀ (M : Mem) (H : Heap) (locs : List Loc) (ls : Array Slot), w_X7_clear Q M → wd G I ad M H → va_S (fA I ad) s.heap H locs → lv_has ls 1 [(0, .ref (ad (28, 0, 0, 0)))] → W p l e rm_X7_clear s m args below meth c H locs 0 0 (MQ below (qV G I ad Q) args s 0 0 (fA I ad)) (F0 m 0 ls []) := by
  have hx := C.1
  have hb := C.2.1
  have hown := C.2.2.2.1
  have hts := C.2.2.2.2.1
  intro M H locs ls hw hP hS hl
  unfold w_X7_clear at hw
  refine lv_aload_n (pc := 0) hx hb dX7_clear_0 rfl (lv_at hl 0 rfl) ?_
  refine lv_ldc (pc := 1) (own := RX7) (v := (-2000000 : Int32)) hx hb hown (hts _ mw_276) dX7_clear_1 ?_
  refine pf_277 (pc := 3) C hP hS h0 dX7_clear_3 (fun H locs hP hS => ?_)
  refine lv_aload_n (pc := 6) hx hb dX7_clear_6 rfl (lv_at hl 0 rfl) ?_
  refine lv_ldc (pc := 7) (own := RX7) (v := (-2000000 : Int32)) hx hb hown (hts _ mw_276) dX7_clear_7 ?_
  refine pf_279 (pc := 9) C hP hS h0 dX7_clear_9 (fun H locs hP hS => ?_)
  refine lv_aload_n (pc := 12) hx hb dX7_clear_12 rfl (lv_at hl 0 rfl) ?_
  refine lv_iconst (pc := 13) (v := (0 : Int32)) hx hb dX7_clear_13 (by decide) ?_
  refine pf_281 (pc := 14) C hP hS h0 dX7_clear_14 (fun H locs hP hS => ?_)
  refine lv_aload_n (pc := 17) hx hb dX7_clear_17 rfl (lv_at hl 0 rfl) ?_
  refine lv_iconst (pc := 18) (v := (0 : Int32)) hx hb dX7_clear_18 (by decide) ?_
  refine pf_283 (pc := 19) C hP hS h0 dX7_clear_19 (fun H locs hP hS => ?_)
  obtain ⟨M19, eM19⟩ : ∃ z : Mem, z = (mu (mu (mu (mu M (28, 0, 0, 0) 0 (-2000000 : Int32)) (28, 0, 0, 0) 1 (-2000000 : Int32)) (28, 0, 0, 0) 2 (0 : Int32)) (28, 0, 0, 0) 3 (0 : Int32)) := ⟨_, rfl⟩
  replace hP : wd G I ad M19 H := by rw [eM19]; exact hP
  replace hw := hw M19 eM19
  exact r_vret (pc := 22) C hP hS hw dX7_clear_22
end
theorem k_X7_clear (l : Launch) (G : GG) {I : ix → Prop} {ad : ix → Nat} (hC : clo I) (h0 : I (28, 0, 0, 0)) {Q : Mem → Prop} {M : Mem} (hw : w_X7_clear Q M) : Met l yX7_clear (wW yX7_clear cX7_clear 1 none) rm_X7_clear (va_Pc [.ref (ad (28, 0, 0, 0))] (fun U => wd G I ad M U.heap ∧ wK G U)) (qV G I ad Q) 0 0 (fA I ad) := met_of (by decide +kernel) (Nat.le_of_ble_eq_true rfl) (fun p e s m below meth c C hP hS ls hl => j_X7_clear_0 C hC h0 _ _ _ _ hw hP hS hl)
section
variable {p : Program} {l : Launch} {e : Env} {s : State} {m : MethodId} {args : Array Value} {below : List Frame} {meth : Method} {c : Code} 
variable  {G : GG} {I : ix → Prop} {ad : ix → Nat}
set_option maxHeartbeats 4000000 in
set_option maxRecDepth 100000 in
theorem j_X7_note_0 {a1 : Int32} (C : cx p s m args meth c cX7_note 2 none RX7 G) (hC : clo I) (h0 : I (28, 0, 0, 0)) {Q : Mem → Prop} : ∀ (M : Mem) (H : Heap) (locs : List Loc) (ls : Array Slot), w_X7_note a1 Q M → wd G I ad M H → va_S (fA I ad) s.heap H locs → lv_has ls 2 [(0, .ref (ad (28, 0, 0, 0))), (1, .int a1)] → W p l e rm_X7_note s m args below meth c H locs 0 0 (MQ below (qV G I ad Q) args s 0 0 (fA I ad)) (F0 m 0 ls []) := by
  have hx := C.1
  have hb := C.2.1
  have hown := C.2.2.2.1
  have hts := C.2.2.2.2.1
  intro M H locs ls hw hP hS hl
  unfold w_X7_note at hw
  refine lv_iload_n (pc := 0) hx hb dX7_note_0 rfl (lv_at hl 1 rfl) ?_
  refine lv_sipush (pc := 1) (v := (1000 : Int32)) hx hb dX7_note_1 (by decide) ?_
  refine lv_icmp_ne (pc := 4) (tgt := 18) hx hb dX7_note_4 (by decide) (fun h => ?_) (fun h => ?_)
  · replace hw := if_f h hw
    refine lv_aload_n (pc := 18) hx hb dX7_note_18 rfl (lv_at hl 0 rfl) ?_
    refine lv_aload_n (pc := 19) hx hb dX7_note_19 rfl (lv_at hl 0 rfl) ?_
    refine gf_277 (pc := 20) C hP h0 dX7_note_20 ?_
    refine lv_ldc (pc := 23) (own := RX7) (v := (-2000000 : Int32)) hx hb hown (hts _ mw_276) dX7_note_23 ?_
    refine lv_icmp_ne (pc := 25) (tgt := 32) hx hb dX7_note_25 (by decide) (fun h => ?_) (fun h => ?_)
    · replace hw := if_f h hw
      refine lv_aload_n (pc := 32) hx hb dX7_note_32 rfl (lv_at hl 0 rfl) ?_
      refine gf_277 (pc := 33) C hP h0 dX7_note_33 ?_
      refine lv_iload_n (pc := 36) hx hb dX7_note_36 rfl (lv_at hl 1 rfl) ?_
      refine r_min (pc := 37) (rest := [.ref (ad (28, 0, 0, 0))]) C hl.1 mw_672 mw_341 mw_66 mw_342 (Nat.le_of_ble_eq_true rfl) (Nat.le_of_ble_eq_true rfl) (Nat.zero_le _) (Nat.zero_le _) dX7_note_37 ?_
      refine pf_277 (pc := 40) C hP hS h0 dX7_note_40 (fun H locs hP hS => ?_)
      refine lv_aload_n (pc := 43) hx hb dX7_note_43 rfl (lv_at hl 0 rfl) ?_
      refine lv_aload_n (pc := 44) hx hb dX7_note_44 rfl (lv_at hl 0 rfl) ?_
      refine gf_279 (pc := 45) C hP h0 dX7_note_45 ?_
      refine lv_ldc (pc := 48) (own := RX7) (v := (-2000000 : Int32)) hx hb hown (hts _ mw_276) dX7_note_48 ?_
      refine lv_icmp_ne (pc := 50) (tgt := 57) hx hb dX7_note_50 (by decide) (fun h => ?_) (fun h => ?_)
      · replace hw := if_f h hw
        refine lv_aload_n (pc := 57) hx hb dX7_note_57 rfl (lv_at hl 0 rfl) ?_
        refine gf_279 (pc := 58) C hP h0 dX7_note_58 ?_
        refine lv_iload_n (pc := 61) hx hb dX7_note_61 rfl (lv_at hl 1 rfl) ?_
        refine r_max (pc := 62) (rest := [.ref (ad (28, 0, 0, 0))]) C hl.1 mw_673 mw_344 mw_66 mw_345 (Nat.le_of_ble_eq_true rfl) (Nat.le_of_ble_eq_true rfl) (Nat.zero_le _) (Nat.zero_le _) dX7_note_62 ?_
        refine pf_279 (pc := 65) C hP hS h0 dX7_note_65 (fun H locs hP hS => ?_)
        obtain ⟨M65, eM65⟩ : ∃ z : Mem, z = (mu (mu M (28, 0, 0, 0) 0 (if a1 < (M.1 (28, 0, 0, 0) 0) then a1 else (M.1 (28, 0, 0, 0) 0))) (28, 0, 0, 0) 1 (if ((mu M (28, 0, 0, 0) 0 (if a1 < (M.1 (28, 0, 0, 0) 0) then a1 else (M.1 (28, 0, 0, 0) 0))).1 (28, 0, 0, 0) 1) < a1 then a1 else ((mu M (28, 0, 0, 0) 0 (if a1 < (M.1 (28, 0, 0, 0) 0) then a1 else (M.1 (28, 0, 0, 0) 0))).1 (28, 0, 0, 0) 1))) := ⟨_, rfl⟩
        replace hP : wd G I ad M65 H := by rw [eM65]; exact hP
        replace hw := hw M65 eM65
        refine lv_aload_n (pc := 68) hx hb dX7_note_68 rfl (lv_at hl 0 rfl) ?_
        refine lv_dup (pc := 69) hx hb dX7_note_69 rfl ?_
        refine gf_281 (pc := 70) C hP h0 dX7_note_70 ?_
        refine lv_iload_n (pc := 73) hx hb dX7_note_73 rfl (lv_at hl 1 rfl) ?_
        refine lv_iadd (pc := 74) hx hb dX7_note_74 ?_
        refine pf_281 (pc := 75) C hP hS h0 dX7_note_75 (fun H locs hP hS => ?_)
        exact r_vret (pc := 78) C hP hS hw dX7_note_78
      · replace hw := if_t h hw
        refine lv_iload_n (pc := 53) hx hb dX7_note_53 rfl (lv_at hl 1 rfl) ?_
        refine lv_goto (pc := 54) (tgt := 65) hx hb dX7_note_54 (by decide) ?_
        refine pf_279 (pc := 65) C hP hS h0 dX7_note_65 (fun H locs hP hS => ?_)
        refine lv_aload_n (pc := 68) hx hb dX7_note_68 rfl (lv_at hl 0 rfl) ?_
        refine lv_dup (pc := 69) hx hb dX7_note_69 rfl ?_
        refine gf_281 (pc := 70) C hP h0 dX7_note_70 ?_
        refine lv_iload_n (pc := 73) hx hb dX7_note_73 rfl (lv_at hl 1 rfl) ?_
        refine lv_iadd (pc := 74) hx hb dX7_note_74 ?_
        refine pf_281 (pc := 75) C hP hS h0 dX7_note_75 (fun H locs hP hS => ?_)
        obtain ⟨M75, eM75⟩ : ∃ z : Mem, z = (mu (mu (mu M (28, 0, 0, 0) 0 (if a1 < (M.1 (28, 0, 0, 0) 0) then a1 else (M.1 (28, 0, 0, 0) 0))) (28, 0, 0, 0) 1 a1) (28, 0, 0, 0) 2 (((mu (mu M (28, 0, 0, 0) 0 (if a1 < (M.1 (28, 0, 0, 0) 0) then a1 else (M.1 (28, 0, 0, 0) 0))) (28, 0, 0, 0) 1 a1).1 (28, 0, 0, 0) 2) + a1)) := ⟨_, rfl⟩
        replace hP : wd G I ad M75 H := by rw [eM75]; exact hP
        replace hw := hw M75 eM75
        exact r_vret (pc := 78) C hP hS hw dX7_note_78
    · replace hw := if_t h hw
      refine lv_iload_n (pc := 28) hx hb dX7_note_28 rfl (lv_at hl 1 rfl) ?_
      refine lv_goto (pc := 29) (tgt := 40) hx hb dX7_note_29 (by decide) ?_
      refine pf_277 (pc := 40) C hP hS h0 dX7_note_40 (fun H locs hP hS => ?_)
      refine lv_aload_n (pc := 43) hx hb dX7_note_43 rfl (lv_at hl 0 rfl) ?_
      refine lv_aload_n (pc := 44) hx hb dX7_note_44 rfl (lv_at hl 0 rfl) ?_
      refine gf_279 (pc := 45) C hP h0 dX7_note_45 ?_
      refine lv_ldc (pc := 48) (own := RX7) (v := (-2000000 : Int32)) hx hb hown (hts _ mw_276) dX7_note_48 ?_
      refine lv_icmp_ne (pc := 50) (tgt := 57) hx hb dX7_note_50 (by decide) (fun h => ?_) (fun h => ?_)
      · replace hw := if_f h hw
        refine lv_aload_n (pc := 57) hx hb dX7_note_57 rfl (lv_at hl 0 rfl) ?_
        refine gf_279 (pc := 58) C hP h0 dX7_note_58 ?_
        refine lv_iload_n (pc := 61) hx hb dX7_note_61 rfl (lv_at hl 1 rfl) ?_
        refine r_max (pc := 62) (rest := [.ref (ad (28, 0, 0, 0))]) C hl.1 mw_673 mw_344 mw_66 mw_345 (Nat.le_of_ble_eq_true rfl) (Nat.le_of_ble_eq_true rfl) (Nat.zero_le _) (Nat.zero_le _) dX7_note_62 ?_
        refine pf_279 (pc := 65) C hP hS h0 dX7_note_65 (fun H locs hP hS => ?_)
        obtain ⟨M65, eM65⟩ : ∃ z : Mem, z = (mu (mu M (28, 0, 0, 0) 0 a1) (28, 0, 0, 0) 1 (if ((mu M (28, 0, 0, 0) 0 a1).1 (28, 0, 0, 0) 1) < a1 then a1 else ((mu M (28, 0, 0, 0) 0 a1).1 (28, 0, 0, 0) 1))) := ⟨_, rfl⟩
        replace hP : wd G I ad M65 H := by rw [eM65]; exact hP
        replace hw := hw M65 eM65
        refine lv_aload_n (pc := 68) hx hb dX7_note_68 rfl (lv_at hl 0 rfl) ?_
        refine lv_dup (pc := 69) hx hb dX7_note_69 rfl ?_
        refine gf_281 (pc := 70) C hP h0 dX7_note_70 ?_
        refine lv_iload_n (pc := 73) hx hb dX7_note_73 rfl (lv_at hl 1 rfl) ?_
        refine lv_iadd (pc := 74) hx hb dX7_note_74 ?_
        refine pf_281 (pc := 75) C hP hS h0 dX7_note_75 (fun H locs hP hS => ?_)
        exact r_vret (pc := 78) C hP hS hw dX7_note_78
      · replace hw := if_t h hw
        refine lv_iload_n (pc := 53) hx hb dX7_note_53 rfl (lv_at hl 1 rfl) ?_
        refine lv_goto (pc := 54) (tgt := 65) hx hb dX7_note_54 (by decide) ?_
        refine pf_279 (pc := 65) C hP hS h0 dX7_note_65 (fun H locs hP hS => ?_)
        refine lv_aload_n (pc := 68) hx hb dX7_note_68 rfl (lv_at hl 0 rfl) ?_
        refine lv_dup (pc := 69) hx hb dX7_note_69 rfl ?_
        refine gf_281 (pc := 70) C hP h0 dX7_note_70 ?_
        refine lv_iload_n (pc := 73) hx hb dX7_note_73 rfl (lv_at hl 1 rfl) ?_
        refine lv_iadd (pc := 74) hx hb dX7_note_74 ?_
        refine pf_281 (pc := 75) C hP hS h0 dX7_note_75 (fun H locs hP hS => ?_)
        obtain ⟨M75, eM75⟩ : ∃ z : Mem, z = (mu (mu (mu M (28, 0, 0, 0) 0 a1) (28, 0, 0, 0) 1 a1) (28, 0, 0, 0) 2 (((mu (mu M (28, 0, 0, 0) 0 a1) (28, 0, 0, 0) 1 a1).1 (28, 0, 0, 0) 2) + a1)) := ⟨_, rfl⟩
        replace hP : wd G I ad M75 H := by rw [eM75]; exact hP
        replace hw := hw M75 eM75
        exact r_vret (pc := 78) C hP hS hw dX7_note_78
  · replace hw := if_t h hw
    refine lv_aload_n (pc := 7) hx hb dX7_note_7 rfl (lv_at hl 0 rfl) ?_
    refine lv_dup (pc := 8) hx hb dX7_note_8 rfl ?_
    refine gf_283 (pc := 9) C hP h0 dX7_note_9 ?_
    refine lv_iconst (pc := 12) (v := (1 : Int32)) hx hb dX7_note_12 (by decide) ?_
    refine lv_iadd (pc := 13) hx hb dX7_note_13 ?_
    refine pf_283 (pc := 14) C hP hS h0 dX7_note_14 (fun H locs hP hS => ?_)
    exact r_vret (pc := 17) C hP hS hw dX7_note_17
end
theorem k_X7_note (l : Launch) (G : GG) {I : ix → Prop} {ad : ix → Nat} (hC : clo I) {a1 : Int32} (h0 : I (28, 0, 0, 0)) {Q : Mem → Prop} {M : Mem} (hw : w_X7_note a1 Q M) : Met l yX7_note (wW yX7_note cX7_note 2 none) rm_X7_note (va_Pc [.ref (ad (28, 0, 0, 0)), .int a1] (fun U => wd G I ad M U.heap ∧ wK G U)) (qV G I ad Q) 0 0 (fA I ad) := met_of (by decide +kernel) (Nat.le_of_ble_eq_true rfl) (fun p e s m below meth c C hP hS ls hl => j_X7_note_0 C hC h0 _ _ _ _ hw hP hS hl)
