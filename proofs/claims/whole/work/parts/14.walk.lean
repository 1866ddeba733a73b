section
variable {p : Program} {l : Launch} {e : Env} {s : State} {m : MethodId} {args : Array Value} {below : List Frame} {meth : Method} {c : Code} 
variable  {G : GG} {I : ix → Prop} {ad : ix → Nat}
set_option maxHeartbeats 4000000 in
set_option maxRecDepth 100000 in
theorem j_X9_isTerm_0 {a1 : Int32} (C : cx p s m args meth c cX9_isTerm 2 (some .boolean) RX9 G) (hC : clo I) (h0 : I (29, 0, 0, 0)) {Q : Int32 → Mem → Prop} : ∀ (M : Mem) (H : Heap) (locs : List Loc) (ls : Array Slot), w_X9_isTerm a1 Q M → wd G I ad M H → va_S (fA I ad) s.heap H locs → lv_has ls 2 [(0, .ref (ad (29, 0, 0, 0))), (1, .int a1)] → W p l e rm_X9_isTerm s m args below meth c H locs 0 0 (MQ below (qI G I ad Q) args s 0 0 (fA I ad)) (F0 m 0 ls []) := by
  have hx := C.1
  have hb := C.2.1
  have hown := C.2.2.2.1
  have hts := C.2.2.2.2.1
  intro M H locs ls hw hP hS hl
  unfold w_X9_isTerm at hw
  refine lv_aload_n (pc := 0) hx hb dX9_isTerm_0 rfl (lv_at hl 0 rfl) ?_
  refine gf_722 (pc := 1) C hP h0 dX9_isTerm_1 ?_
  refine lv_iload_n (pc := 4) hx hb dX9_isTerm_4 rfl (lv_at hl 1 rfl) ?_
  refine r_ialdK (pc := 5) (n := 60) (k := a1.toNatClampNeg) C hP (cl_29_6 hC h0) (fun _ _ _ _ => rfl) hw.1 rfl dX9_isTerm_5 ?_
  replace hw := hw.2
  refine lv_ldc (pc := 6) (own := RX9) (v := (-2000000 : Int32)) hx hb hown (hts _ mw_715) dX9_isTerm_6 ?_
  refine lv_icmp_eq (pc := 8) (tgt := 26) hx hb dX9_isTerm_8 (by decide) (fun h => ?_) (fun h => ?_)
  · replace hw := if_t h hw
    refine lv_iconst (pc := 26) (v := (0 : Int32)) hx hb dX9_isTerm_26 (by decide) ?_
    exact r_zret (pc := 27) C hP hS (by decide) hw dX9_isTerm_27
  · replace hw := if_f h hw
    refine lv_aload_n (pc := 11) hx hb dX9_isTerm_11 rfl (lv_at hl 0 rfl) ?_
    refine gf_722 (pc := 12) C hP h0 dX9_isTerm_12 ?_
    refine lv_iload_n (pc := 15) hx hb dX9_isTerm_15 rfl (lv_at hl 1 rfl) ?_
    refine r_ialdK (pc := 16) (n := 60) (k := a1.toNatClampNeg) C hP (cl_29_6 hC h0) (fun _ _ _ _ => rfl) hw.1 rfl dX9_isTerm_16 ?_
    replace hw := hw.2
    refine lv_bipush (pc := 17) (v := (10 : Int32)) hx hb dX9_isTerm_17 (by decide) ?_
    refine lv_icmp_ge (pc := 19) (tgt := 26) hx hb dX9_isTerm_19 (by decide) (fun h => ?_) (fun h => ?_)
    · replace hw := if_t h hw
      refine lv_iconst (pc := 26) (v := (0 : Int32)) hx hb dX9_isTerm_26 (by decide) ?_
      exact r_zret (pc := 27) C hP hS (by decide) hw dX9_isTerm_27
    · replace hw := if_f h hw
      refine lv_iconst (pc := 22) (v := (1 : Int32)) hx hb dX9_isTerm_22 (by decide) ?_
      refine lv_goto (pc := 23) (tgt := 27) hx hb dX9_isTerm_23 (by decide) ?_
      exact r_zret (pc := 27) C hP hS (by decide) hw dX9_isTerm_27
end
theorem k_X9_isTerm (l : Launch) (G : GG) {I : ix → Prop} {ad : ix → Nat} (hC : clo I) {a1 : Int32} (h0 : I (29, 0, 0, 0)) {Q : Int32 → Mem → Prop} {M : Mem} (hw : w_X9_isTerm a1 Q M) : Met l yX9_isTerm (wW yX9_isTerm cX9_isTerm 2 (some .boolean)) rm_X9_isTerm (va_Pc [.ref (ad (29, 0, 0, 0)), .int a1] (fun U => wd G I ad M U.heap ∧ wK G U)) (qI G I ad Q) 0 0 (fA I ad) := met_of (by decide +kernel) (Nat.le_of_ble_eq_true rfl) (fun p e s m below meth c C hP hS ls hl => j_X9_isTerm_0 C hC h0 _ _ _ _ hw hP hS hl)
section
variable {p : Program} {l : Launch} {e : Env} {s : State} {m : MethodId} {args : Array Value} {below : List Frame} {meth : Method} {c : Code} 
variable  {G : GG} {I : ix → Prop} {ad : ix → Nat}
set_option maxHeartbeats 4000000 in
set_option maxRecDepth 100000 in
theorem j_X9_cut_0 {a0 : Int64} (C : cx p s m args meth c cX9_cut 2 (some .int) RX9 G) (hC : clo I) {Q : Int32 → Mem → Prop} : ∀ (M : Mem) (H : Heap) (locs : List Loc) (ls : Array Slot), w_X9_cut a0 Q M → wd G I ad M H → va_S (fA I ad) s.heap H locs → lv_has ls 2 [(0, .long a0)] → W p l e rm_X9_cut s m args below meth c H locs 0 0 (MQ below (qI G I ad Q) args s 0 0 (fA I ad)) (F0 m 0 ls []) := by
  have hx := C.1
  have hb := C.2.1
  have hown := C.2.2.2.1
  have hts := C.2.2.2.2.1
  intro M H locs ls hw hP hS hl
  unfold w_X9_cut at hw
  refine lv_lload_n (pc := 0) hx hb dX9_cut_0 rfl (lv_at hl 0 rfl) ?_
  refine lv_ldc2 (pc := 1) (own := RX9) (v := (-1000000 : Int64)) hx hb hown (hts _ mw_883) dX9_cut_1 ?_
  refine W.lcmp (pc := 4) hx hb dX9_cut_4 ?_
  refine lv_if_ge (pc := 5) (tgt := 13) hx hb dX9_cut_5 (by decide) (fun h => ?_) (fun h => ?_)
  · replace hw := if_t h hw
    refine lv_lload_n (pc := 13) hx hb dX9_cut_13 rfl (lv_at hl 0 rfl) ?_
    refine lv_ldc2 (pc := 14) (own := RX9) (v := (1000000 : Int64)) hx hb hown (hts _ mw_885) dX9_cut_14 ?_
    refine W.lcmp (pc := 17) hx hb dX9_cut_17 ?_
    refine lv_if_le (pc := 18) (tgt := 26) hx hb dX9_cut_18 (by decide) (fun h => ?_) (fun h => ?_)
    · replace hw := if_t h hw
      refine lv_lload_n (pc := 26) hx hb dX9_cut_26 rfl (lv_at hl 0 rfl) ?_
      refine lv_l2i (pc := 27) hx hb dX9_cut_27 rfl ?_
      exact r_iret (pc := 28) C hP hS hw dX9_cut_28
    · replace hw := if_f h hw
      refine lv_ldc (pc := 21) (own := RX9) (v := (1000000 : Int32)) hx hb hown (hts _ mw_886) dX9_cut_21 ?_
      refine lv_goto (pc := 23) (tgt := 28) hx hb dX9_cut_23 (by decide) ?_
      exact r_iret (pc := 28) C hP hS hw dX9_cut_28
  · replace hw := if_f h hw
    refine lv_ldc (pc := 8) (own := RX9) (v := (-1000000 : Int32)) hx hb hown (hts _ mw_884) dX9_cut_8 ?_
    refine lv_goto (pc := 10) (tgt := 28) hx hb dX9_cut_10 (by decide) ?_
    exact r_iret (pc := 28) C hP hS hw dX9_cut_28
end
theorem k_X9_cut (l : Launch) (G : GG) {I : ix → Prop} {ad : ix → Nat} (hC : clo I) {a0 : Int64} {Q : Int32 → Mem → Prop} {M : Mem} (hw : w_X9_cut a0 Q M) : Met l yX9_cut (wW yX9_cut cX9_cut 2 (some .int)) rm_X9_cut (va_Pc [.long a0] (fun U => wd G I ad M U.heap ∧ wK G U)) (qI G I ad Q) 0 0 (fA I ad) := met_of (by decide +kernel) (Nat.le_of_ble_eq_true rfl) (fun p e s m below meth c C hP hS ls hl => j_X9_cut_0 C hC  _ _ _ _ hw hP hS hl)
section
variable {p : Program} {l : Launch} {e : Env} {s : State} {m : MethodId} {args : Array Value} {below : List Frame} {meth : Method} {c : Code} 
variable  {G : GG} {I : ix → Prop} {ad : ix → Nat}
set_option maxHeartbeats 4000000 in
set_option maxRecDepth 100000 in
theorem j_X9_byteOf_0 {a0 : Int32} (C : cx p s m args meth c cX9_byteOf 2 (some .int) RX9 G) (hC : clo I) {Q : Int32 → Mem → Prop} : ∀ (M : Mem) (H : Heap) (locs : List Loc) (ls : Array Slot), w_X9_byteOf a0 Q M → wd G I ad M H → va_S (fA I ad) s.heap H locs → lv_has ls 2 [(0, .int a0)] → W p l e rm_X9_byteOf s m args below meth c H locs 0 0 (MQ below (qI G I ad Q) args s 0 0 (fA I ad)) (F0 m 0 ls []) := by
  have hx := C.1
  have hb := C.2.1
  have hown := C.2.2.2.1
  have hts := C.2.2.2.2.1
  intro M H locs ls hw hP hS hl
  unfold w_X9_byteOf at hw
  refine lv_iload_n (pc := 0) hx hb dX9_byteOf_0 rfl (lv_at hl 0 rfl) ?_
  refine lv_sipush (pc := 1) (v := (256 : Int32)) hx hb dX9_byteOf_1 (by decide) ?_
  refine lv_irem (pc := 4) hx hb dX9_byteOf_4 (by decide) ?_
  refine lv_sipush (pc := 5) (v := (256 : Int32)) hx hb dX9_byteOf_5 (by decide) ?_
  refine lv_iadd (pc := 8) hx hb dX9_byteOf_8 ?_
  refine lv_sipush (pc := 9) (v := (256 : Int32)) hx hb dX9_byteOf_9 (by decide) ?_
  refine lv_irem (pc := 12) hx hb dX9_byteOf_12 (by decide) ?_
  refine lv_topi (fun x1_13 ex1_13 => ?_)
  replace hw := hw x1_13 ex1_13
  refine lv_istore_n (pc := 13) (lv' := [(1, .int x1_13), (0, .int a0)]) hx hb dX9_byteOf_13 rfl hl (by decide) rfl (fun ls hl => ?_)
  refine lv_iload_n (pc := 14) hx hb dX9_byteOf_14 rfl (lv_at hl 0 rfl) ?_
  refine lv_bipush (pc := 15) (v := (127 : Int32)) hx hb dX9_byteOf_15 (by decide) ?_
  refine lv_icmp_le (pc := 17) (tgt := 28) hx hb dX9_byteOf_17 (by decide) (fun h => ?_) (fun h => ?_)
  · replace hw := if_t h hw
    refine lv_iload_n (pc := 28) hx hb dX9_byteOf_28 rfl (lv_at hl 0 rfl) ?_
    exact r_iret (pc := 29) C hP hS hw dX9_byteOf_29
  · replace hw := if_f h hw
    refine lv_iload_n (pc := 20) hx hb dX9_byteOf_20 rfl (lv_at hl 0 rfl) ?_
    refine lv_sipush (pc := 21) (v := (256 : Int32)) hx hb dX9_byteOf_21 (by decide) ?_
    refine lv_isub (pc := 24) hx hb dX9_byteOf_24 ?_
    refine lv_goto (pc := 25) (tgt := 29) hx hb dX9_byteOf_25 (by decide) ?_
    exact r_iret (pc := 29) C hP hS hw dX9_byteOf_29
end
theorem k_X9_byteOf (l : Launch) (G : GG) {I : ix → Prop} {ad : ix → Nat} (hC : clo I) {a0 : Int32} {Q : Int32 → Mem → Prop} {M : Mem} (hw : w_X9_byteOf a0 Q M) : Met l yX9_byteOf (wW yX9_byteOf cX9_byteOf 2 (some .int)) rm_X9_byteOf (va_Pc [.int a0] (fun U => wd G I ad M U.heap ∧ wK G U)) (qI G I ad Q) 0 0 (fA I ad) := met_of (by decide +kernel) (Nat.le_of_ble_eq_true rfl) (fun p e s m below meth c C hP hS ls hl => j_X9_byteOf_0 C hC  _ _ _ _ hw hP hS hl)
section
variable {p : Program} {l : Launch} {e : Env} {s : State} {m : MethodId} {args : Array Value} {below : List Frame} {meth : Method} {c : Code} 
variable  {G : GG} {I : ix → Prop} {ad : ix → Nat}
set_option maxHeartbeats 4000000 in
set_option maxRecDepth 100000 in
theorem j_X9_three_0 {a1 : Int32} (C : cx p s m args meth c cX9_three 2 (some .int) RX9 G) (hC : clo I) (h0 : I (29, 0, 0, 0)) {Q : Int32 → Mem → Prop} : ∀ (M : Mem) (H : Heap) (locs : List Loc) (ls : Array Slot), w_X9_three a1 Q M → wd G I ad M H → va_S (fA I ad) s.heap H locs → lv_has ls 2 [(0, .ref (ad (29, 0, 0, 0))), (1, .int a1)] → W p l e rm_X9_three s m args below meth c H locs 0 0 (MQ below (qI G I ad Q) args s 0 0 (fA I ad)) (F0 m 0 ls []) := by
  have hx := C.1
  have hb := C.2.1
  have hown := C.2.2.2.1
  have hts := C.2.2.2.2.1
  intro M H locs ls hw hP hS hl
  unfold w_X9_three at hw
  refine lv_bipush (pc := 0) (v := (100 : Int32)) hx hb dX9_three_0 (by decide) ?_
  refine lv_aload_n (pc := 2) hx hb dX9_three_2 rfl (lv_at hl 0 rfl) ?_
  refine gf_721 (pc := 3) C hP h0 dX9_three_3 ?_
  refine lv_iload_n (pc := 6) hx hb dX9_three_6 rfl (lv_at hl 1 rfl) ?_
  refine lv_iconst (pc := 7) (v := (1 : Int32)) hx hb dX9_three_7 (by decide) ?_
  refine lv_iadd (pc := 8) hx hb dX9_three_8 ?_
  refine r_ialdK (pc := 9) (n := 60) (k := (a1 + (1 : Int32)).toNatClampNeg) C hP (cl_29_5 hC h0) (fun _ _ _ _ => rfl) hw.1 rfl dX9_three_9 ?_
  replace hw := hw.2
  refine lv_bipush (pc := 10) (v := (48 : Int32)) hx hb dX9_three_10 (by decide) ?_
  refine lv_isub (pc := 12) hx hb dX9_three_12 ?_
  refine lv_imul (pc := 13) hx hb dX9_three_13 ?_
  refine lv_bipush (pc := 14) (v := (10 : Int32)) hx hb dX9_three_14 (by decide) ?_
  refine lv_aload_n (pc := 16) hx hb dX9_three_16 rfl (lv_at hl 0 rfl) ?_
  refine gf_721 (pc := 17) C hP h0 dX9_three_17 ?_
  refine lv_iload_n (pc := 20) hx hb dX9_three_20 rfl (lv_at hl 1 rfl) ?_
  refine lv_iconst (pc := 21) (v := (2 : Int32)) hx hb dX9_three_21 (by decide) ?_
  refine lv_iadd (pc := 22) hx hb dX9_three_22 ?_
  refine r_ialdK (pc := 23) (n := 60) (k := (a1 + (2 : Int32)).toNatClampNeg) C hP (cl_29_5 hC h0) (fun _ _ _ _ => rfl) hw.1 rfl dX9_three_23 ?_
  replace hw := hw.2
  refine lv_bipush (pc := 24) (v := (48 : Int32)) hx hb dX9_three_24 (by decide) ?_
  refine lv_isub (pc := 26) hx hb dX9_three_26 ?_
  refine lv_imul (pc := 27) hx hb dX9_three_27 ?_
  refine lv_iadd (pc := 28) hx hb dX9_three_28 ?_
  refine lv_aload_n (pc := 29) hx hb dX9_three_29 rfl (lv_at hl 0 rfl) ?_
  refine gf_721 (pc := 30) C hP h0 dX9_three_30 ?_
  refine lv_iload_n (pc := 33) hx hb dX9_three_33 rfl (lv_at hl 1 rfl) ?_
  refine lv_iconst (pc := 34) (v := (3 : Int32)) hx hb dX9_three_34 (by decide) ?_
  refine lv_iadd (pc := 35) hx hb dX9_three_35 ?_
  refine r_ialdK (pc := 36) (n := 60) (k := (a1 + (3 : Int32)).toNatClampNeg) C hP (cl_29_5 hC h0) (fun _ _ _ _ => rfl) hw.1 rfl dX9_three_36 ?_
  replace hw := hw.2
  refine lv_iadd (pc := 37) hx hb dX9_three_37 ?_
  refine lv_bipush (pc := 38) (v := (48 : Int32)) hx hb dX9_three_38 (by decide) ?_
  refine lv_isub (pc := 40) hx hb dX9_three_40 ?_
  exact r_iret (pc := 41) C hP hS hw dX9_three_41
end
theorem k_X9_three (l : Launch) (G : GG) {I : ix → Prop} {ad : ix → Nat} (hC : clo I) {a1 : Int32} (h0 : I (29, 0, 0, 0)) {Q : Int32 → Mem → Prop} {M : Mem} (hw : w_X9_three a1 Q M) : Met l yX9_three (wW yX9_three cX9_three 2 (some .int)) rm_X9_three (va_Pc [.ref (ad (29, 0, 0, 0)), .int a1] (fun U => wd G I ad M U.heap ∧ wK G U)) (qI G I ad Q) 0 0 (fA I ad) := met_of (by decide +kernel) (Nat.le_of_ble_eq_true rfl) (fun p e s m below meth c C hP hS ls hl => j_X9_three_0 C hC h0 _ _ _ _ hw hP hS hl)
section
variable {p : Program} {l : Launch} {e : Env} {s : State} {m : MethodId} {args : Array Value} {below : List Frame} {meth : Method} {c : Code} 
variable  {G : GG} {I : ix → Prop} {ad : ix → Nat}
set_option maxHeartbeats 4000000 in
set_option maxRecDepth 100000 in
theorem j_X9_both_0 {a0 : Int32} {a1 : Int32} (C : cx p s m args meth c cX9_both 2 (some .int) RX9 G) (hC : clo I) {Q : Int32 → Mem → Prop} : ∀ (M : Mem) (H : Heap) (locs : List Loc) (ls : Array Slot), w_X9_both a0 a1 Q M → wd G I ad M H → va_S (fA I ad) s.heap H locs → lv_has ls 2 [(0, .int a0), (1, .int a1)] → W p l e rm_X9_both s m args below meth c H locs 0 0 (MQ below (qI G I ad Q) args s 0 0 (fA I ad)) (F0 m 0 ls []) := by
  have hx := C.1
  have hb := C.2.1
  have hown := C.2.2.2.1
  have hts := C.2.2.2.2.1
  intro M H locs ls hw hP hS hl
  unfold w_X9_both at hw
  refine lv_iload_n (pc := 0) hx hb dX9_both_0 rfl (lv_at hl 0 rfl) ?_
  refine lv_if_eq (pc := 1) (tgt := 8) hx hb dX9_both_1 (by decide) (fun h => ?_) (fun h => ?_)
  · replace hw := if_t h hw
    refine lv_iconst (pc := 8) (v := (0 : Int32)) hx hb dX9_both_8 (by decide) ?_
    refine lv_goto (pc := 9) (tgt := 27) hx hb dX9_both_9 (by decide) ?_
    exact r_iret (pc := 27) C hP hS hw dX9_both_27
  · replace hw := if_f h hw
    refine lv_iload_n (pc := 4) hx hb dX9_both_4 rfl (lv_at hl 1 rfl) ?_
    refine lv_if_ne (pc := 5) (tgt := 12) hx hb dX9_both_5 (by decide) (fun h => ?_) (fun h => ?_)
    · replace hw := if_f h hw
      refine lv_iload_n (pc := 12) hx hb dX9_both_12 rfl (lv_at hl 0 rfl) ?_
      refine lv_iconst (pc := 13) (v := (2 : Int32)) hx hb dX9_both_13 (by decide) ?_
      refine lv_icmp_eq (pc := 14) (tgt := 22) hx hb dX9_both_14 (by decide) (fun h => ?_) (fun h => ?_)
      · replace hw := if_t h hw
        refine lv_iconst (pc := 22) (v := (2 : Int32)) hx hb dX9_both_22 (by decide) ?_
        refine lv_goto (pc := 23) (tgt := 27) hx hb dX9_both_23 (by decide) ?_
        exact r_iret (pc := 27) C hP hS hw dX9_both_27
      · replace hw := if_f h hw
        refine lv_iload_n (pc := 17) hx hb dX9_both_17 rfl (lv_at hl 1 rfl) ?_
        refine lv_iconst (pc := 18) (v := (2 : Int32)) hx hb dX9_both_18 (by decide) ?_
        refine lv_icmp_ne (pc := 19) (tgt := 26) hx hb dX9_both_19 (by decide) (fun h => ?_) (fun h => ?_)
        · replace hw := if_f h hw
          refine lv_iconst (pc := 26) (v := (1 : Int32)) hx hb dX9_both_26 (by decide) ?_
          exact r_iret (pc := 27) C hP hS hw dX9_both_27
        · replace hw := if_t h hw
          refine lv_iconst (pc := 22) (v := (2 : Int32)) hx hb dX9_both_22 (by decide) ?_
          refine lv_goto (pc := 23) (tgt := 27) hx hb dX9_both_23 (by decide) ?_
          exact r_iret (pc := 27) C hP hS hw dX9_both_27
    · replace hw := if_t h hw
      refine lv_iconst (pc := 8) (v := (0 : Int32)) hx hb dX9_both_8 (by decide) ?_
      refine lv_goto (pc := 9) (tgt := 27) hx hb dX9_both_9 (by decide) ?_
      exact r_iret (pc := 27) C hP hS hw dX9_both_27
end
theorem k_X9_both (l : Launch) (G : GG) {I : ix → Prop} {ad : ix → Nat} (hC : clo I) {a0 : Int32} {a1 : Int32} {Q : Int32 → Mem → Prop} {M : Mem} (hw : w_X9_both a0 a1 Q M) : Met l yX9_both (wW yX9_both cX9_both 2 (some .int)) rm_X9_both (va_Pc [.int a0, .int a1] (fun U => wd G I ad M U.heap ∧ wK G U)) (qI G I ad Q) 0 0 (fA I ad) := met_of (by decide +kernel) (Nat.le_of_ble_eq_true rfl) (fun p e s m below meth c C hP hS ls hl => j_X9_both_0 C hC  _ _ _ _ hw hP hS hl)
section
variable {p : Program} {l : Launch} {e : Env} {s : State} {m : MethodId} {args : Array Value} {below : List Frame} {meth : Method} {c : Code} 
variable  {G : GG} {I : ix → Prop} {ad : ix → Nat}
set_option maxHeartbeats 4000000 in
set_option maxRecDepth 100000 in
theorem j_X9_not_0 {a0 : Int32} (C : cx p s m args meth c cX9_not 1 (some .int) RX9 G) (hC : clo I) {Q : Int32 → Mem → Prop} : ∀ (M : Mem) (H : Heap) (locs : List Loc) (ls : Array Slot), w_X9_not a0 Q M → wd G I ad M H → va_S (fA I ad) s.heap H locs → lv_has ls 1 [(0, .int a0)] → W p l e rm_X9_not s m args below meth c H locs 0 0 (MQ below (qI G I ad Q) args s 0 0 (fA I ad)) (F0 m 0 ls []) := by
  have hx := C.1
  have hb := C.2.1
  have hown := C.2.2.2.1
  have hts := C.2.2.2.2.1
  intro M H locs ls hw hP hS hl
  unfold w_X9_not at hw
  refine lv_iload_n (pc := 0) hx hb dX9_not_0 rfl (lv_at hl 0 rfl) ?_
  refine lv_iconst (pc := 1) (v := (2 : Int32)) hx hb dX9_not_1 (by decide) ?_
  refine lv_icmp_ne (pc := 2) (tgt := 9) hx hb dX9_not_2 (by decide) (fun h => ?_) (fun h => ?_)
  · replace hw := if_f h hw
    refine lv_iconst (pc := 9) (v := (1 : Int32)) hx hb dX9_not_9 (by decide) ?_
    refine lv_iload_n (pc := 10) hx hb dX9_not_10 rfl (lv_at hl 0 rfl) ?_
    refine lv_isub (pc := 11) hx hb dX9_not_11 ?_
    exact r_iret (pc := 12) C hP hS hw dX9_not_12
  · replace hw := if_t h hw
    refine lv_iconst (pc := 5) (v := (2 : Int32)) hx hb dX9_not_5 (by decide) ?_
    refine lv_goto (pc := 6) (tgt := 12) hx hb dX9_not_6 (by decide) ?_
    exact r_iret (pc := 12) C hP hS hw dX9_not_12
end
theorem k_X9_not (l : Launch) (G : GG) {I : ix → Prop} {ad : ix → Nat} (hC : clo I) {a0 : Int32} {Q : Int32 → Mem → Prop} {M : Mem} (hw : w_X9_not a0 Q M) : Met l yX9_not (wW yX9_not cX9_not 1 (some .int)) rm_X9_not (va_Pc [.int a0] (fun U => wd G I ad M U.heap ∧ wK G U)) (qI G I ad Q) 0 0 (fA I ad) := met_of (by decide +kernel) (Nat.le_of_ble_eq_true rfl) (fun p e s m below meth c C hP hS ls hl => j_X9_not_0 C hC  _ _ _ _ hw hP hS hl)
section
variable {p : Program} {l : Launch} {e : Env} {s : State} {m : MethodId} {args : Array Value} {below : List Frame} {meth : Method} {c : Code} 
variable  {G : GG} {I : ix → Prop} {ad : ix → Nat}
set_option maxHeartbeats 4000000 in
set_option maxRecDepth 100000 in
theorem j_X9_either_0 {a0 : Int32} {a1 : Int32} (C : cx p s m args meth c cX9_either 2 (some .int) RX9 G) (hC : clo I) {Q : Int32 → Mem → Prop} : ∀ (M : Mem) (H : Heap) (locs : List Loc) (ls : Array Slot), w_X9_either a0 a1 Q M → wd G I ad M H → va_S (fA I ad) s.heap H locs → lv_has ls 2 [(0, .int a0), (1, .int a1)] → W p l e rm_X9_either s m args below meth c H locs 0 0 (MQ below (qI G I ad Q) args s 0 0 (fA I ad)) (F0 m 0 ls []) := by
  have hx := C.1
  have hb := C.2.1
  have hown := C.2.2.2.1
  have hts := C.2.2.2.2.1
  intro M H locs ls hw hP hS hl
  unfold w_X9_either at hw
  refine lv_iload_n (pc := 0) hx hb dX9_either_0 rfl (lv_at hl 0 rfl) ?_
  refine r_cSI (pc := 1) (rest := []) (As := [.int a0]) C hl.1 hP hS (k_X9_not l G hC  hw) mw_900 mw_901 mw_65 mw_902 ⟨rfl, rfl⟩ hd_X9_not rfl rfl ⟨Nat.le_of_ble_eq_true rfl, Nat.le_of_ble_eq_true rfl⟩ (Nat.le_of_ble_eq_true rfl) ⟨Nat.zero_le _, Nat.zero_le _⟩ dX9_either_1 (fun r1 M1 H locs hw hP hS => ?_)
  refine lv_iload_n (pc := 4) hx hb dX9_either_4 rfl (lv_at hl 1 rfl) ?_
  refine r_cSI (pc := 5) (rest := [.int r1]) (As := [.int a1]) C hl.1 hP hS (k_X9_not l G hC  hw) mw_900 mw_901 mw_65 mw_902 ⟨rfl, rfl⟩ hd_X9_not rfl rfl ⟨Nat.le_of_ble_eq_true rfl, Nat.le_of_ble_eq_true rfl⟩ (Nat.le_of_ble_eq_true rfl) ⟨Nat.zero_le _, Nat.zero_le _⟩ dX9_either_5 (fun r5 M5 H locs hw hP hS => ?_)
  refine r_cSI (pc := 8) (rest := []) (As := [.int r1, .int r5]) C hl.1 hP hS (k_X9_both l G hC  hw) mw_894 mw_895 mw_65 mw_896 ⟨rfl, rfl⟩ hd_X9_both rfl rfl ⟨Nat.le_of_ble_eq_true rfl, Nat.le_of_ble_eq_true rfl⟩ (Nat.le_of_ble_eq_true rfl) ⟨Nat.zero_le _, Nat.zero_le _⟩ dX9_either_8 (fun r8 M8 H locs hw hP hS => ?_)
  refine r_cSI (pc := 11) (rest := []) (As := [.int r8]) C hl.1 hP hS (k_X9_not l G hC  hw) mw_900 mw_901 mw_65 mw_902 ⟨rfl, rfl⟩ hd_X9_not rfl rfl ⟨Nat.le_of_ble_eq_true rfl, Nat.le_of_ble_eq_true rfl⟩ (Nat.le_of_ble_eq_true rfl) ⟨Nat.zero_le _, Nat.zero_le _⟩ dX9_either_11 (fun r11 M11 H locs hw hP hS => ?_)
  exact r_iret (pc := 14) C hP hS hw dX9_either_14
end
theorem k_X9_either (l : Launch) (G : GG) {I : ix → Prop} {ad : ix → Nat} (hC : clo I) {a0 : Int32} {a1 : Int32} {Q : Int32 → Mem → Prop} {M : Mem} (hw : w_X9_either a0 a1 Q M) : Met l yX9_either (wW yX9_either cX9_either 2 (some .int)) rm_X9_either (va_Pc [.int a0, .int a1] (fun U => wd G I ad M U.heap ∧ wK G U)) (qI G I ad Q) 0 0 (fA I ad) := met_of (by decide +kernel) (Nat.le_of_ble_eq_true rfl) (fun p e s m below meth c C hP hS ls hl => j_X9_either_0 C hC  _ _ _ _ hw hP hS hl)
section
variable {p : Program} {l : Launch} {e : Env} {s : State} {m : MethodId} {args : Array Value} {below : List Frame} {meth : Method} {c : Code} 
variable  {G : GG} {I : ix → Prop} {ad : ix → Nat}
set_option maxHeartbeats 4000000 in
set_option maxRecDepth 100000 in
theorem j_X9_truthAt_40 {a1 : Int32} (C : cx p s m args meth c cX9_truthAt 4 (some .int) RX9 G) (hC : clo I) (h0 : I (29, 0, 0, 0)) {Q : Int32 → Mem → Prop} : ∀ (x2 : Int32) (t0 : Int32) (M : Mem) (H : Heap) (locs : List Loc) (ls : Array Slot), w_X9_truthAt_40 a1 Q x2 t0 M → wd G I ad M H → va_S (fA I ad) s.heap H locs → lv_has ls 4 [(0, .ref (ad (29, 0, 0, 0))), (1, .int a1), (2, .int x2)] → W p l e rm_X9_truthAt s m args below meth c H locs 0 0 (MQ below (qI G I ad Q) args s 0 0 (fA I ad)) (F0 m 40 ls [.int t0]) := by
  have hx := C.1
  have hb := C.2.1
  have hown := C.2.2.2.1
  have hts := C.2.2.2.2.1
  intro x2 t0 M H locs ls hw hP hS hl
  unfold w_X9_truthAt_40 at hw
  refine lv_istore_n (pc := 40) (lv' := [(3, .int t0), (0, .ref (ad (29, 0, 0, 0))), (1, .int a1), (2, .int x2)]) hx hb dX9_truthAt_40 rfl hl (by decide) rfl (fun ls hl => ?_)
  refine lv_aload_n (pc := 41) hx hb dX9_truthAt_41 rfl (lv_at hl 1 rfl) ?_
  refine gf_722 (pc := 42) C hP h0 dX9_truthAt_42 ?_
  refine lv_iload_n (pc := 45) hx hb dX9_truthAt_45 rfl (lv_at hl 2 rfl) ?_
  refine r_ialdK (pc := 46) (n := 60) (k := a1.toNatClampNeg) C hP (cl_29_6 hC h0) (fun _ _ _ _ => rfl) hw.1 rfl dX9_truthAt_46 ?_
  replace hw := hw.2
  by_cases hk0 : (M.1 (35, 0, 0, 0) a1.toNatClampNeg) = (10 : Int32)
  · replace hw := if_t hk0 hw
    refine lv_tableIn (pc := 47) (tgt := 80) (off := 33) hx hb dX9_truthAt_47 (by rw [hk0]; decide) (by rw [hk0]; decide) (by rw [hk0]; rfl) (by decide) ?_
    refine lv_iload_n (pc := 80) hx hb dX9_truthAt_80 rfl (lv_at hl 3 rfl) ?_
    refine lv_ldc (pc := 81) (own := RX9) (v := (-2000000 : Int32)) hx hb hown (hts _ mw_715) dX9_truthAt_81 ?_
    refine lv_icmp_eq (pc := 83) (tgt := 92) hx hb dX9_truthAt_83 (by decide) (fun h => ?_) (fun h => ?_)
    · replace hw := if_t h hw
      refine lv_iconst (pc := 92) (v := (2 : Int32)) hx hb dX9_truthAt_92 (by decide) ?_
      refine lv_goto (pc := 93) (tgt := 106) hx hb dX9_truthAt_93 (by decide) ?_
      exact r_iret (pc := 106) C hP hS hw dX9_truthAt_106
    · replace hw := if_f h hw
      refine lv_iload_n (pc := 86) hx hb dX9_truthAt_86 rfl (lv_at hl 0 rfl) ?_
      refine lv_ldc (pc := 87) (own := RX9) (v := (-2000000 : Int32)) hx hb hown (hts _ mw_715) dX9_truthAt_87 ?_
      refine lv_icmp_ne (pc := 89) (tgt := 96) hx hb dX9_truthAt_89 (by decide) (fun h => ?_) (fun h => ?_)
      · replace hw := if_f h hw
        refine lv_iload_n (pc := 96) hx hb dX9_truthAt_96 rfl (lv_at hl 3 rfl) ?_
        refine lv_iload_n (pc := 97) hx hb dX9_truthAt_97 rfl (lv_at hl 0 rfl) ?_
        refine lv_icmp_ge (pc := 98) (tgt := 105) hx hb dX9_truthAt_98 (by decide) (fun h => ?_) (fun h => ?_)
        · replace hw := if_t h hw
          refine lv_iconst (pc := 105) (v := (0 : Int32)) hx hb dX9_truthAt_105 (by decide) ?_
          exact r_iret (pc := 106) C hP hS hw dX9_truthAt_106
        · replace hw := if_f h hw
          refine lv_iconst (pc := 101) (v := (1 : Int32)) hx hb dX9_truthAt_101 (by decide) ?_
          refine lv_goto (pc := 102) (tgt := 106) hx hb dX9_truthAt_102 (by decide) ?_
          exact r_iret (pc := 106) C hP hS hw dX9_truthAt_106
      · replace hw := if_t h hw
        refine lv_iconst (pc := 92) (v := (2 : Int32)) hx hb dX9_truthAt_92 (by decide) ?_
        refine lv_goto (pc := 93) (tgt := 106) hx hb dX9_truthAt_93 (by decide) ?_
        exact r_iret (pc := 106) C hP hS hw dX9_truthAt_106
  · replace hw := if_f hk0 hw
    by_cases hk1 : (M.1 (35, 0, 0, 0) a1.toNatClampNeg) = (11 : Int32)
    · replace hw := if_t hk1 hw
      refine lv_tableIn (pc := 47) (tgt := 107) (off := 60) hx hb dX9_truthAt_47 (by rw [hk1]; decide) (by rw [hk1]; decide) (by rw [hk1]; rfl) (by decide) ?_
      refine lv_iload_n (pc := 107) hx hb dX9_truthAt_107 rfl (lv_at hl 3 rfl) ?_
      refine lv_ldc (pc := 108) (own := RX9) (v := (-2000000 : Int32)) hx hb hown (hts _ mw_715) dX9_truthAt_108 ?_
      refine lv_icmp_eq (pc := 110) (tgt := 119) hx hb dX9_truthAt_110 (by decide) (fun h => ?_) (fun h => ?_)
      · replace hw := if_t h hw
        refine lv_iconst (pc := 119) (v := (2 : Int32)) hx hb dX9_truthAt_119 (by decide) ?_
        refine lv_goto (pc := 120) (tgt := 133) hx hb dX9_truthAt_120 (by decide) ?_
        exact r_iret (pc := 133) C hP hS hw dX9_truthAt_133
      · replace hw := if_f h hw
        refine lv_iload_n (pc := 113) hx hb dX9_truthAt_113 rfl (lv_at hl 0 rfl) ?_
        refine lv_ldc (pc := 114) (own := RX9) (v := (-2000000 : Int32)) hx hb hown (hts _ mw_715) dX9_truthAt_114 ?_
        refine lv_icmp_ne (pc := 116) (tgt := 123) hx hb dX9_truthAt_116 (by decide) (fun h => ?_) (fun h => ?_)
        · replace hw := if_f h hw
          refine lv_iload_n (pc := 123) hx hb dX9_truthAt_123 rfl (lv_at hl 3 rfl) ?_
          refine lv_iload_n (pc := 124) hx hb dX9_truthAt_124 rfl (lv_at hl 0 rfl) ?_
          refine lv_icmp_ne (pc := 125) (tgt := 132) hx hb dX9_truthAt_125 (by decide) (fun h => ?_) (fun h => ?_)
          · replace hw := if_f h hw
            refine lv_iconst (pc := 132) (v := (0 : Int32)) hx hb dX9_truthAt_132 (by decide) ?_
            exact r_iret (pc := 133) C hP hS hw dX9_truthAt_133
          · replace hw := if_t h hw
            refine lv_iconst (pc := 128) (v := (1 : Int32)) hx hb dX9_truthAt_128 (by decide) ?_
            refine lv_goto (pc := 129) (tgt := 133) hx hb dX9_truthAt_129 (by decide) ?_
            exact r_iret (pc := 133) C hP hS hw dX9_truthAt_133
        · replace hw := if_t h hw
          refine lv_iconst (pc := 119) (v := (2 : Int32)) hx hb dX9_truthAt_119 (by decide) ?_
          refine lv_goto (pc := 120) (tgt := 133) hx hb dX9_truthAt_120 (by decide) ?_
          exact r_iret (pc := 133) C hP hS hw dX9_truthAt_133
    · replace hw := if_f hk1 hw
      by_cases hk2 : (M.1 (35, 0, 0, 0) a1.toNatClampNeg) = (12 : Int32)
      · replace hw := if_t hk2 hw
        refine lv_tableIn (pc := 47) (tgt := 134) (off := 87) hx hb dX9_truthAt_47 (by rw [hk2]; decide) (by rw [hk2]; decide) (by rw [hk2]; rfl) (by decide) ?_
        refine lv_iload_n (pc := 134) hx hb dX9_truthAt_134 rfl (lv_at hl 3 rfl) ?_
        refine lv_iload_n (pc := 135) hx hb dX9_truthAt_135 rfl (lv_at hl 0 rfl) ?_
        refine r_cSI (pc := 136) (rest := []) (As := [.int x2, .int t0]) C hl.1 hP hS (k_X9_both l G hC  hw) mw_894 mw_895 mw_65 mw_896 ⟨rfl, rfl⟩ hd_X9_both rfl rfl ⟨Nat.le_of_ble_eq_true rfl, Nat.le_of_ble_eq_true rfl⟩ (Nat.le_of_ble_eq_true rfl) ⟨Nat.zero_le _, Nat.zero_le _⟩ dX9_truthAt_136 (fun r136 M136 H locs hw hP hS => ?_)
        exact r_iret (pc := 139) C hP hS hw dX9_truthAt_139
      · replace hw := if_f hk2 hw
        by_cases hk3 : (M.1 (35, 0, 0, 0) a1.toNatClampNeg) = (13 : Int32)
        · replace hw := if_t hk3 hw
          refine lv_tableIn (pc := 47) (tgt := 140) (off := 93) hx hb dX9_truthAt_47 (by rw [hk3]; decide) (by rw [hk3]; decide) (by rw [hk3]; rfl) (by decide) ?_
          refine lv_iload_n (pc := 140) hx hb dX9_truthAt_140 rfl (lv_at hl 3 rfl) ?_
          refine lv_iload_n (pc := 141) hx hb dX9_truthAt_141 rfl (lv_at hl 0 rfl) ?_
          refine r_cSI (pc := 142) (rest := []) (As := [.int x2, .int t0]) C hl.1 hP hS (k_X9_either l G hC  hw) mw_897 mw_898 mw_65 mw_899 ⟨rfl, rfl⟩ hd_X9_either rfl rfl ⟨Nat.le_of_ble_eq_true rfl, Nat.le_of_ble_eq_true rfl⟩ (Nat.le_of_ble_eq_true rfl) ⟨Nat.zero_le _, Nat.zero_le _⟩ dX9_truthAt_142 (fun r142 M142 H locs hw hP hS => ?_)
          exact r_iret (pc := 145) C hP hS hw dX9_truthAt_145
        · replace hw := if_f hk3 hw
          by_cases hk4 : (M.1 (35, 0, 0, 0) a1.toNatClampNeg) = (14 : Int32)
          · replace hw := if_t hk4 hw
            refine lv_tableIn (pc := 47) (tgt := 146) (off := 99) hx hb dX9_truthAt_47 (by rw [hk4]; decide) (by rw [hk4]; decide) (by rw [hk4]; rfl) (by decide) ?_
            refine lv_iload_n (pc := 146) hx hb dX9_truthAt_146 rfl (lv_at hl 3 rfl) ?_
            refine r_cSI (pc := 147) (rest := []) (As := [.int x2]) C hl.1 hP hS (k_X9_not l G hC  hw) mw_900 mw_901 mw_65 mw_902 ⟨rfl, rfl⟩ hd_X9_not rfl rfl ⟨Nat.le_of_ble_eq_true rfl, Nat.le_of_ble_eq_true rfl⟩ (Nat.le_of_ble_eq_true rfl) ⟨Nat.zero_le _, Nat.zero_le _⟩ dX9_truthAt_147 (fun r147 M147 H locs hw hP hS => ?_)
            exact r_iret (pc := 150) C hP hS hw dX9_truthAt_150
          · replace hw := if_f hk4 hw
            refine lv_tableOut (pc := 47) (tgt := 151) hx hb dX9_truthAt_47 (by have q0 := lv_neT (a := 10) hk0 rfl; have q1 := lv_neT (a := 11) hk1 rfl; have q2 := lv_neT (a := 12) hk2 rfl; have q3 := lv_neT (a := 13) hk3 rfl; have q4 := lv_neT (a := 14) hk4 rfl; omega) (by decide) ?_
            refine lv_aload_n (pc := 151) hx hb dX9_truthAt_151 rfl (lv_at hl 1 rfl) ?_
            refine gf_728 (pc := 152) C hP h0 dX9_truthAt_152 ?_
            refine lv_aload_n (pc := 155) hx hb dX9_truthAt_155 rfl (lv_at hl 1 rfl) ?_
            refine gf_721 (pc := 156) C hP h0 dX9_truthAt_156 ?_
            refine lv_iload_n (pc := 159) hx hb dX9_truthAt_159 rfl (lv_at hl 2 rfl) ?_
            refine lv_iconst (pc := 160) (v := (1 : Int32)) hx hb dX9_truthAt_160 (by decide) ?_
            refine lv_iadd (pc := 161) hx hb dX9_truthAt_161 ?_
            refine r_ialdK (pc := 162) (n := 60) (k := (a1 + (1 : Int32)).toNatClampNeg) C hP (cl_29_5 hC h0) (fun _ _ _ _ => rfl) hw.1 rfl dX9_truthAt_162 ?_
            replace hw := hw.2
            refine lv_bipush (pc := 163) (v := (97 : Int32)) hx hb dX9_truthAt_163 (by decide) ?_
            refine lv_isub (pc := 165) hx hb dX9_truthAt_165 ?_
            refine r_ialdK (pc := 166) (n := 4) (k := ((M.1 (34, 0, 0, 0) ((a1 + (1 : Int32)).toNatClampNeg)) - (97 : Int32)).toNatClampNeg) C hP (cl_29_12 hC h0) (fun _ _ _ _ => rfl) hw.1 rfl dX9_truthAt_166 ?_
            replace hw := hw.2
            refine lv_sipush (pc := 167) (v := (1000 : Int32)) hx hb dX9_truthAt_167 (by decide) ?_
            refine lv_icmp_ne (pc := 170) (tgt := 177) hx hb dX9_truthAt_170 (by decide) (fun h => ?_) (fun h => ?_)
            · replace hw := if_f h hw
              refine lv_iconst (pc := 177) (v := (0 : Int32)) hx hb dX9_truthAt_177 (by decide) ?_
              exact r_iret (pc := 178) C hP hS hw dX9_truthAt_178
            · replace hw := if_t h hw
              refine lv_iconst (pc := 173) (v := (1 : Int32)) hx hb dX9_truthAt_173 (by decide) ?_
              refine lv_goto (pc := 174) (tgt := 178) hx hb dX9_truthAt_174 (by decide) ?_
              exact r_iret (pc := 178) C hP hS hw dX9_truthAt_178
set_option maxHeartbeats 4000000 in
set_option maxRecDepth 100000 in
theorem j_X9_truthAt_0 {a1 : Int32} (C : cx p s m args meth c cX9_truthAt 4 (some .int) RX9 G) (hC : clo I) (h0 : I (29, 0, 0, 0)) {Q : Int32 → Mem → Prop} : ∀ (M : Mem) (H : Heap) (locs : List Loc) (ls : Array Slot), w_X9_truthAt a1 Q M → wd G I ad M H → va_S (fA I ad) s.heap H locs → lv_has ls 4 [(0, .ref (ad (29, 0, 0, 0))), (1, .int a1)] → W p l e rm_X9_truthAt s m args below meth c H locs 0 0 (MQ below (qI G I ad Q) args s 0 0 (fA I ad)) (F0 m 0 ls []) := by
  have hx := C.1
  have hb := C.2.1
  have hown := C.2.2.2.1
  have hts := C.2.2.2.2.1
  intro M H locs ls hw hP hS hl
  unfold w_X9_truthAt at hw
  refine lv_aload_n (pc := 0) hx hb dX9_truthAt_0 rfl (lv_at hl 0 rfl) ?_
  refine gf_727 (pc := 1) C hP h0 dX9_truthAt_1 ?_
  refine lv_aload_n (pc := 4) hx hb dX9_truthAt_4 rfl (lv_at hl 0 rfl) ?_
  refine gf_723 (pc := 5) C hP h0 dX9_truthAt_5 ?_
  refine lv_iload_n (pc := 8) hx hb dX9_truthAt_8 rfl (lv_at hl 1 rfl) ?_
  refine r_ialdK (pc := 9) (n := 60) (k := a1.toNatClampNeg) C hP (cl_29_7 hC h0) (fun _ _ _ _ => rfl) hw.1 rfl dX9_truthAt_9 ?_
  replace hw := hw.2
  refine r_ialdK (pc := 10) (n := 60) (k := (M.1 (36, 0, 0, 0) a1.toNatClampNeg).toNatClampNeg) C hP (cl_29_11 hC h0) (fun _ _ _ _ => rfl) hw.1 rfl dX9_truthAt_10 ?_
  replace hw := hw.2
  refine lv_topi (fun x2_11 ex2_11 => ?_)
  replace hw := hw x2_11 ex2_11
  refine lv_istore_n (pc := 11) (lv' := [(2, .int x2_11), (0, .ref (ad (29, 0, 0, 0))), (1, .int a1)]) hx hb dX9_truthAt_11 rfl hl (by decide) rfl (fun ls hl => ?_)
  refine lv_aload_n (pc := 12) hx hb dX9_truthAt_12 rfl (lv_at hl 1 rfl) ?_
  refine gf_722 (pc := 13) C hP h0 dX9_truthAt_13 ?_
  refine lv_iload_n (pc := 16) hx hb dX9_truthAt_16 rfl (lv_at hl 2 rfl) ?_
  refine r_ialdK (pc := 17) (n := 60) (k := a1.toNatClampNeg) C hP (cl_29_6 hC h0) (fun _ _ _ _ => rfl) hw.1 rfl dX9_truthAt_17 ?_
  replace hw := hw.2
  refine r_cSI (pc := 18) (rest := []) (As := [.int (M.1 (35, 0, 0, 0) a1.toNatClampNeg)]) C hl.1 hP hS (k_X9_inner l G hC  hw) mw_853 mw_854 mw_65 mw_855 ⟨rfl, rfl⟩ hd_X9_inner rfl rfl ⟨Nat.le_of_ble_eq_true rfl, Nat.le_of_ble_eq_true rfl⟩ (Nat.le_of_ble_eq_true rfl) ⟨Nat.zero_le _, Nat.zero_le _⟩ dX9_truthAt_18 (fun r18 M18 H locs hw hP hS => ?_)
  refine lv_iconst (pc := 21) (v := (1 : Int32)) hx hb dX9_truthAt_21 (by decide) ?_
  refine lv_icmp_le (pc := 22) (tgt := 39) hx hb dX9_truthAt_22 (by decide) (fun h => ?_) (fun h => ?_)
  · replace hw := if_t h hw
    refine lv_iconst (pc := 39) (v := (0 : Int32)) hx hb dX9_truthAt_39 (by decide) ?_
    exact j_X9_truthAt_40 C hC h0 x2_11 (0 : Int32) M18 _ _ _ hw hP hS (lv_sub hl [1, 2, 0] rfl)
  · replace hw := if_f h hw
    refine lv_aload_n (pc := 25) hx hb dX9_truthAt_25 rfl (lv_at hl 1 rfl) ?_
    refine gf_727 (pc := 26) C hP h0 dX9_truthAt_26 ?_
    refine lv_aload_n (pc := 29) hx hb dX9_truthAt_29 rfl (lv_at hl 1 rfl) ?_
    refine gf_724 (pc := 30) C hP h0 dX9_truthAt_30 ?_
    refine lv_iload_n (pc := 33) hx hb dX9_truthAt_33 rfl (lv_at hl 2 rfl) ?_
    refine r_ialdK (pc := 34) (n := 60) (k := a1.toNatClampNeg) C hP (cl_29_8 hC h0) (fun _ _ _ _ => rfl) hw.1 rfl dX9_truthAt_34 ?_
    replace hw := hw.2
    refine r_ialdK (pc := 35) (n := 60) (k := (M18.1 (37, 0, 0, 0) a1.toNatClampNeg).toNatClampNeg) C hP (cl_29_11 hC h0) (fun _ _ _ _ => rfl) hw.1 rfl dX9_truthAt_35 ?_
    replace hw := hw.2
    refine lv_goto (pc := 36) (tgt := 40) hx hb dX9_truthAt_36 (by decide) ?_
    exact j_X9_truthAt_40 C hC h0 x2_11 (M18.1 (40, 0, 0, 0) ((M18.1 (37, 0, 0, 0) a1.toNatClampNeg).toNatClampNeg)) M18 _ _ _ hw hP hS (lv_sub hl [1, 2, 0] rfl)
end
theorem k_X9_truthAt (l : Launch) (G : GG) {I : ix → Prop} {ad : ix → Nat} (hC : clo I) {a1 : Int32} (h0 : I (29, 0, 0, 0)) {Q : Int32 → Mem → Prop} {M : Mem} (hw : w_X9_truthAt a1 Q M) : Met l yX9_truthAt (wW yX9_truthAt cX9_truthAt 4 (some .int)) rm_X9_truthAt (va_Pc [.ref (ad (29, 0, 0, 0)), .int a1] (fun U => wd G I ad M U.heap ∧ wK G U)) (qI G I ad Q) 0 0 (fA I ad) := met_of (by decide +kernel) (Nat.le_of_ble_eq_true rfl) (fun p e s m below meth c C hP hS ls hl => j_X9_truthAt_0 C hC h0 _ _ _ _ hw hP hS hl)
section
variable {p : Program} {l : Launch} {e : Env} {s : State} {m : MethodId} {args : Array Value} {below : List Frame} {meth : Method} {c : Code} 
variable  {G : GG} {I : ix → Prop} {ad : ix → Nat}
set_option maxHeartbeats 4000000 in
set_option maxRecDepth 100000 in
theorem j_X9_number_91 {a1 : Int32} (C : cx p s m args meth c cX9_number 5 (some .int) RX9 G) (hC : clo I) (h0 : I (29, 0, 0, 0)) {Q : Int32 → Mem → Prop} : ∀ (x2 : Int32) (x3 : Int32) (M : Mem) (H : Heap) (locs : List Loc) (ls : Array Slot), w_X9_number_91 a1 Q x2 x3 M → wd G I ad M H → va_S (fA I ad) s.heap H locs → lv_has ls 5 [(0, .ref (ad (29, 0, 0, 0))), (1, .int a1), (2, .int x2), (3, .int x3)] → W p l e rm_X9_number s m args below meth c H locs 0 0 (MQ below (qI G I ad Q) args s 0 0 (fA I ad)) (F0 m 91 ls []) := by
  have hx := C.1
  have hb := C.2.1
  have hown := C.2.2.2.1
  have hts := C.2.2.2.2.1
  intro x2 x3 M H locs ls hw hP hS hl
  unfold w_X9_number_91 at hw
  refine lv_aload_n (pc := 91) hx hb dX9_number_91 rfl (lv_at hl 0 rfl) ?_
  refine gf_722 (pc := 92) C hP h0 dX9_number_92 ?_
  refine lv_iload_n (pc := 95) hx hb dX9_number_95 rfl (lv_at hl 1 rfl) ?_
  refine r_ialdK (pc := 96) (n := 60) (k := a1.toNatClampNeg) C hP (cl_29_6 hC h0) (fun _ _ _ _ => rfl) hw.1 rfl dX9_number_96 ?_
  replace hw := hw.2
  by_cases hk0 : (M.1 (35, 0, 0, 0) a1.toNatClampNeg) = (1 : Int32)
  · replace hw := if_t hk0 hw
    refine lv_tableIn (pc := 97) (tgt := 144) (off := 47) hx hb dX9_number_97 (by rw [hk0]; decide) (by rw [hk0]; decide) (by rw [hk0]; rfl) (by decide) ?_
    refine lv_aload_n (pc := 144) hx hb dX9_number_144 rfl (lv_at hl 0 rfl) ?_
    refine gf_728 (pc := 145) C hP h0 dX9_number_145 ?_
    refine lv_aload_n (pc := 148) hx hb dX9_number_148 rfl (lv_at hl 0 rfl) ?_
    refine gf_721 (pc := 149) C hP h0 dX9_number_149 ?_
    refine lv_iload_n (pc := 152) hx hb dX9_number_152 rfl (lv_at hl 1 rfl) ?_
    refine r_ialdK (pc := 153) (n := 60) (k := a1.toNatClampNeg) C hP (cl_29_5 hC h0) (fun _ _ _ _ => rfl) hw.1 rfl dX9_number_153 ?_
    replace hw := hw.2
    refine lv_bipush (pc := 154) (v := (97 : Int32)) hx hb dX9_number_154 (by decide) ?_
    refine lv_isub (pc := 156) hx hb dX9_number_156 ?_
    refine r_ialdK (pc := 157) (n := 4) (k := ((M.1 (34, 0, 0, 0) a1.toNatClampNeg) - (97 : Int32)).toNatClampNeg) C hP (cl_29_12 hC h0) (fun _ _ _ _ => rfl) hw.1 rfl dX9_number_157 ?_
    replace hw := hw.2
    refine lv_sipush (pc := 158) (v := (1000 : Int32)) hx hb dX9_number_158 (by decide) ?_
    refine lv_icmp_ne (pc := 161) (tgt := 169) hx hb dX9_number_161 (by decide) (fun h => ?_) (fun h => ?_)
    · replace hw := if_f h hw
      refine lv_aload_n (pc := 169) hx hb dX9_number_169 rfl (lv_at hl 0 rfl) ?_
      refine gf_728 (pc := 170) C hP h0 dX9_number_170 ?_
      refine lv_aload_n (pc := 173) hx hb dX9_number_173 rfl (lv_at hl 0 rfl) ?_
      refine gf_721 (pc := 174) C hP h0 dX9_number_174 ?_
      refine lv_iload_n (pc := 177) hx hb dX9_number_177 rfl (lv_at hl 1 rfl) ?_
      refine r_ialdK (pc := 178) (n := 60) (k := a1.toNatClampNeg) C hP (cl_29_5 hC h0) (fun _ _ _ _ => rfl) hw.1 rfl dX9_number_178 ?_
      replace hw := hw.2
      refine lv_bipush (pc := 179) (v := (97 : Int32)) hx hb dX9_number_179 (by decide) ?_
      refine lv_isub (pc := 181) hx hb dX9_number_181 ?_
      refine r_ialdK (pc := 182) (n := 4) (k := ((M.1 (34, 0, 0, 0) a1.toNatClampNeg) - (97 : Int32)).toNatClampNeg) C hP (cl_29_12 hC h0) (fun _ _ _ _ => rfl) hw.1 rfl dX9_number_182 ?_
      replace hw := hw.2
      exact r_iret (pc := 183) C hP hS hw dX9_number_183
    · replace hw := if_t h hw
      refine lv_ldc (pc := 164) (own := RX9) (v := (-2000000 : Int32)) hx hb hown (hts _ mw_715) dX9_number_164 ?_
      refine lv_goto (pc := 166) (tgt := 183) hx hb dX9_number_166 (by decide) ?_
      exact r_iret (pc := 183) C hP hS hw dX9_number_183
  · replace hw := if_f hk0 hw
    by_cases hk1 : (M.1 (35, 0, 0, 0) a1.toNatClampNeg) = (2 : Int32)
    · replace hw := if_t hk1 hw
      refine lv_tableIn (pc := 97) (tgt := 184) (off := 87) hx hb dX9_number_97 (by rw [hk1]; decide) (by rw [hk1]; decide) (by rw [hk1]; rfl) (by decide) ?_
      refine lv_aload_n (pc := 184) hx hb dX9_number_184 rfl (lv_at hl 0 rfl) ?_
      refine gf_721 (pc := 185) C hP h0 dX9_number_185 ?_
      refine lv_iload_n (pc := 188) hx hb dX9_number_188 rfl (lv_at hl 1 rfl) ?_
      refine r_ialdK (pc := 189) (n := 60) (k := a1.toNatClampNeg) C hP (cl_29_5 hC h0) (fun _ _ _ _ => rfl) hw.1 rfl dX9_number_189 ?_
      replace hw := hw.2
      refine lv_bipush (pc := 190) (v := (48 : Int32)) hx hb dX9_number_190 (by decide) ?_
      refine lv_isub (pc := 192) hx hb dX9_number_192 ?_
      exact r_iret (pc := 193) C hP hS hw dX9_number_193
    · replace hw := if_f hk1 hw
      by_cases hk2 : (M.1 (35, 0, 0, 0) a1.toNatClampNeg) = (3 : Int32)
      · replace hw := if_t hk2 hw
        refine lv_tableIn (pc := 97) (tgt := 194) (off := 97) hx hb dX9_number_97 (by rw [hk2]; decide) (by rw [hk2]; decide) (by rw [hk2]; rfl) (by decide) ?_
        refine lv_aload_n (pc := 194) hx hb dX9_number_194 rfl (lv_at hl 0 rfl) ?_
        refine lv_iload_n (pc := 195) hx hb dX9_number_195 rfl (lv_at hl 1 rfl) ?_
        refine r_cVI (pc := 196) (rest := []) (As := [.int a1]) C hl.1 hP hS (k_X9_three l G hC h0 hw) h0 rfl rfl mw_876 mw_878 mw_46 mw_65 mw_879 ⟨rfl, rfl⟩ hd_X9_three rfl rfl ⟨Nat.le_of_ble_eq_true rfl, Nat.le_of_ble_eq_true rfl⟩ (Nat.le_of_ble_eq_true rfl) ⟨Nat.zero_le _, Nat.zero_le _⟩ dX9_number_196 (fun r196 M196 H locs hw hP hS => ?_)
        exact r_iret (pc := 199) C hP hS hw dX9_number_199
      · replace hw := if_f hk2 hw
        by_cases hk3 : (M.1 (35, 0, 0, 0) a1.toNatClampNeg) = (4 : Int32)
        · replace hw := if_t hk3 hw
          refine lv_tableIn (pc := 97) (tgt := 200) (off := 103) hx hb dX9_number_97 (by rw [hk3]; decide) (by rw [hk3]; decide) (by rw [hk3]; rfl) (by decide) ?_
          refine lv_iload_n (pc := 200) hx hb dX9_number_200 rfl (lv_at hl 2 rfl) ?_
          refine lv_ineg (pc := 201) hx hb dX9_number_201 ?_
          exact r_iret (pc := 202) C hP hS hw dX9_number_202
        · replace hw := if_f hk3 hw
          by_cases hk4 : (M.1 (35, 0, 0, 0) a1.toNatClampNeg) = (5 : Int32)
          · replace hw := if_t hk4 hw
            refine lv_tableIn (pc := 97) (tgt := 203) (off := 106) hx hb dX9_number_97 (by rw [hk4]; decide) (by rw [hk4]; decide) (by rw [hk4]; rfl) (by decide) ?_
            refine lv_iload_n (pc := 203) hx hb dX9_number_203 rfl (lv_at hl 2 rfl) ?_
            refine lv_i2l (pc := 204) hx hb dX9_number_204 rfl ?_
            refine lv_iload_n (pc := 205) hx hb dX9_number_205 rfl (lv_at hl 3 rfl) ?_
            refine lv_i2l (pc := 206) hx hb dX9_number_206 rfl ?_
            refine lv_ladd (pc := 207) hx hb dX9_number_207 ?_
            refine r_cSI (pc := 208) (rest := []) (As := [.long ((x2.toInt64) + (x3.toInt64))]) C hl.1 hP hS (k_X9_cut l G hC  hw) mw_880 mw_881 mw_65 mw_882 ⟨rfl, rfl⟩ hd_X9_cut rfl rfl ⟨Nat.le_of_ble_eq_true rfl, Nat.le_of_ble_eq_true rfl⟩ (Nat.le_of_ble_eq_true rfl) ⟨Nat.zero_le _, Nat.zero_le _⟩ dX9_number_208 (fun r208 M208 H locs hw hP hS => ?_)
            exact r_iret (pc := 211) C hP hS hw dX9_number_211
          · replace hw := if_f hk4 hw
            by_cases hk5 : (M.1 (35, 0, 0, 0) a1.toNatClampNeg) = (6 : Int32)
            · replace hw := if_t hk5 hw
              refine lv_tableIn (pc := 97) (tgt := 212) (off := 115) hx hb dX9_number_97 (by rw [hk5]; decide) (by rw [hk5]; decide) (by rw [hk5]; rfl) (by decide) ?_
              refine lv_iload_n (pc := 212) hx hb dX9_number_212 rfl (lv_at hl 2 rfl) ?_
              refine lv_i2l (pc := 213) hx hb dX9_number_213 rfl ?_
              refine lv_iload_n (pc := 214) hx hb dX9_number_214 rfl (lv_at hl 3 rfl) ?_
              refine lv_i2l (pc := 215) hx hb dX9_number_215 rfl ?_
              refine lv_lsub (pc := 216) hx hb dX9_number_216 ?_
              refine r_cSI (pc := 217) (rest := []) (As := [.long ((x2.toInt64) - (x3.toInt64))]) C hl.1 hP hS (k_X9_cut l G hC  hw) mw_880 mw_881 mw_65 mw_882 ⟨rfl, rfl⟩ hd_X9_cut rfl rfl ⟨Nat.le_of_ble_eq_true rfl, Nat.le_of_ble_eq_true rfl⟩ (Nat.le_of_ble_eq_true rfl) ⟨Nat.zero_le _, Nat.zero_le _⟩ dX9_number_217 (fun r217 M217 H locs hw hP hS => ?_)
              exact r_iret (pc := 220) C hP hS hw dX9_number_220
            · replace hw := if_f hk5 hw
              by_cases hk6 : (M.1 (35, 0, 0, 0) a1.toNatClampNeg) = (7 : Int32)
              · replace hw := if_t hk6 hw
                refine lv_tableIn (pc := 97) (tgt := 221) (off := 124) hx hb dX9_number_97 (by rw [hk6]; decide) (by rw [hk6]; decide) (by rw [hk6]; rfl) (by decide) ?_
                refine lv_iload_n (pc := 221) hx hb dX9_number_221 rfl (lv_at hl 2 rfl) ?_
                refine lv_i2l (pc := 222) hx hb dX9_number_222 rfl ?_
                refine lv_iload_n (pc := 223) hx hb dX9_number_223 rfl (lv_at hl 3 rfl) ?_
                refine lv_i2l (pc := 224) hx hb dX9_number_224 rfl ?_
                refine lv_lmul (pc := 225) hx hb dX9_number_225 ?_
                refine r_cSI (pc := 226) (rest := []) (As := [.long ((x2.toInt64) * (x3.toInt64))]) C hl.1 hP hS (k_X9_cut l G hC  hw) mw_880 mw_881 mw_65 mw_882 ⟨rfl, rfl⟩ hd_X9_cut rfl rfl ⟨Nat.le_of_ble_eq_true rfl, Nat.le_of_ble_eq_true rfl⟩ (Nat.le_of_ble_eq_true rfl) ⟨Nat.zero_le _, Nat.zero_le _⟩ dX9_number_226 (fun r226 M226 H locs hw hP hS => ?_)
                exact r_iret (pc := 229) C hP hS hw dX9_number_229
              · replace hw := if_f hk6 hw
                by_cases hk7 : (M.1 (35, 0, 0, 0) a1.toNatClampNeg) = (8 : Int32)
                · replace hw := if_t hk7 hw
                  refine lv_tableIn (pc := 97) (tgt := 230) (off := 133) hx hb dX9_number_97 (by rw [hk7]; decide) (by rw [hk7]; decide) (by rw [hk7]; rfl) (by decide) ?_
                  refine lv_iload_n (pc := 230) hx hb dX9_number_230 rfl (lv_at hl 2 rfl) ?_
                  refine lv_aload_n (pc := 231) hx hb dX9_number_231 rfl (lv_at hl 0 rfl) ?_
                  refine gf_721 (pc := 232) C hP h0 dX9_number_232 ?_
                  refine lv_aload_n (pc := 235) hx hb dX9_number_235 rfl (lv_at hl 0 rfl) ?_
                  refine gf_725 (pc := 236) C hP h0 dX9_number_236 ?_
                  refine lv_iload_n (pc := 239) hx hb dX9_number_239 rfl (lv_at hl 1 rfl) ?_
                  refine r_ialdK (pc := 240) (n := 60) (k := a1.toNatClampNeg) C hP (cl_29_9 hC h0) (fun _ _ _ _ => rfl) hw.1 rfl dX9_number_240 ?_
                  replace hw := hw.2
                  refine lv_iconst (pc := 241) (v := (1 : Int32)) hx hb dX9_number_241 (by decide) ?_
                  refine lv_isub (pc := 242) hx hb dX9_number_242 ?_
                  refine r_ialdK (pc := 243) (n := 60) (k := ((M.1 (38, 0, 0, 0) a1.toNatClampNeg) - (1 : Int32)).toNatClampNeg) C hP (cl_29_5 hC h0) (fun _ _ _ _ => rfl) hw.1 rfl dX9_number_243 ?_
                  replace hw := hw.2
                  refine lv_bipush (pc := 244) (v := (48 : Int32)) hx hb dX9_number_244 (by decide) ?_
                  refine lv_isub (pc := 246) hx hb dX9_number_246 ?_
                  refine lv_irem (pc := 247) hx hb dX9_number_247 hw.1 ?_
                  replace hw := hw.2
                  exact r_iret (pc := 248) C hP hS hw dX9_number_248
                · replace hw := if_f hk7 hw
                  refine lv_tableOut (pc := 97) (tgt := 249) hx hb dX9_number_97 (by have q0 := lv_neT (a := 1) hk0 rfl; have q1 := lv_neT (a := 2) hk1 rfl; have q2 := lv_neT (a := 3) hk2 rfl; have q3 := lv_neT (a := 4) hk3 rfl; have q4 := lv_neT (a := 5) hk4 rfl; have q5 := lv_neT (a := 6) hk5 rfl; have q6 := lv_neT (a := 7) hk6 rfl; have q7 := lv_neT (a := 8) hk7 rfl; omega) (by decide) ?_
                  refine lv_iload_n (pc := 249) hx hb dX9_number_249 rfl (lv_at hl 2 rfl) ?_
                  refine r_cSI (pc := 250) (rest := []) (As := [.int x2]) C hl.1 hP hS (k_X9_byteOf l G hC  hw) mw_887 mw_888 mw_65 mw_889 ⟨rfl, rfl⟩ hd_X9_byteOf rfl rfl ⟨Nat.le_of_ble_eq_true rfl, Nat.le_of_ble_eq_true rfl⟩ (Nat.le_of_ble_eq_true rfl) ⟨Nat.zero_le _, Nat.zero_le _⟩ dX9_number_250 (fun r250 M250 H locs hw hP hS => ?_)
                  exact r_iret (pc := 253) C hP hS hw dX9_number_253
set_option maxHeartbeats 4000000 in
set_option maxRecDepth 100000 in
theorem j_X9_number_25 {a1 : Int32} (C : cx p s m args meth c cX9_number 5 (some .int) RX9 G) (hC : clo I) (h0 : I (29, 0, 0, 0)) {Q : Int32 → Mem → Prop} : ∀ (t0 : Int32) (M : Mem) (H : Heap) (locs : List Loc) (ls : Array Slot), w_X9_number_25 a1 Q t0 M → wd G I ad M H → va_S (fA I ad) s.heap H locs → lv_has ls 5 [(0, .ref (ad (29, 0, 0, 0))), (1, .int a1)] → I (40, 0, 0, 0) → W p l e rm_X9_number s m args below meth c H locs 0 0 (MQ below (qI G I ad Q) args s 0 0 (fA I ad)) (F0 m 25 ls [.int t0, .ref (ad (40, 0, 0, 0))]) := by
  have hx := C.1
  have hb := C.2.1
  have hown := C.2.2.2.1
  have hts := C.2.2.2.2.1
  intro t0 M H locs ls hw hP hS hl ht1
  unfold w_X9_number_25 at hw
  refine r_ialdK (pc := 25) (n := 60) (k := t0.toNatClampNeg) C hP ht1 (fun _ _ _ _ => rfl) hw.1 rfl dX9_number_25 ?_
  replace hw := hw.2
  refine lv_topi (fun x2_26 ex2_26 => ?_)
  replace hw := hw x2_26 ex2_26
  refine lv_istore_n (pc := 26) (lv' := [(2, .int x2_26), (0, .ref (ad (29, 0, 0, 0))), (1, .int a1)]) hx hb dX9_number_26 rfl hl (by decide) rfl (fun ls hl => ?_)
  refine lv_aload_n (pc := 27) hx hb dX9_number_27 rfl (lv_at hl 1 rfl) ?_
  refine gf_727 (pc := 28) C hP h0 dX9_number_28 ?_
  refine lv_aload_n (pc := 31) hx hb dX9_number_31 rfl (lv_at hl 1 rfl) ?_
  refine gf_724 (pc := 32) C hP h0 dX9_number_32 ?_
  refine lv_iload_n (pc := 35) hx hb dX9_number_35 rfl (lv_at hl 2 rfl) ?_
  refine r_ialdK (pc := 36) (n := 60) (k := a1.toNatClampNeg) C hP (cl_29_8 hC h0) (fun _ _ _ _ => rfl) hw.1 rfl dX9_number_36 ?_
  replace hw := hw.2
  refine lv_bipush (pc := 37) (v := (60 : Int32)) hx hb dX9_number_37 (by decide) ?_
  refine lv_icmp_ge (pc := 39) (tgt := 51) hx hb dX9_number_39 (by decide) (fun h => ?_) (fun h => ?_)
  · replace hw := if_t h hw
    refine lv_iconst (pc := 51) (v := (0 : Int32)) hx hb dX9_number_51 (by decide) ?_
    refine r_ialdK (pc := 52) (n := 60) (k := 0) C hP (cl_29_11 hC h0) (fun _ _ _ _ => rfl) (vpc (by decide)) (by decide) dX9_number_52 ?_
    refine lv_topi (fun x3_53 ex3_53 => ?_)
    replace hw := hw x3_53 ex3_53
    refine lv_istore_n (pc := 53) (lv' := [(3, .int x3_53), (2, .int x2_26), (0, .ref (ad (29, 0, 0, 0))), (1, .int a1)]) hx hb dX9_number_53 rfl hl (by decide) rfl (fun ls hl => ?_)
    refine lv_aload_n (pc := 54) hx hb dX9_number_54 rfl (lv_at hl 2 rfl) ?_
    refine gf_722 (pc := 55) C hP h0 dX9_number_55 ?_
    refine lv_iload_n (pc := 58) hx hb dX9_number_58 rfl (lv_at hl 3 rfl) ?_
    refine r_ialdK (pc := 59) (n := 60) (k := a1.toNatClampNeg) C hP (cl_29_6 hC h0) (fun _ _ _ _ => rfl) hw.1 rfl dX9_number_59 ?_
    replace hw := hw.2
    refine r_cSI (pc := 60) (rest := []) (As := [.int (M.1 (35, 0, 0, 0) a1.toNatClampNeg)]) C hl.1 hP hS (k_X9_inner l G hC  hw) mw_853 mw_854 mw_65 mw_855 ⟨rfl, rfl⟩ hd_X9_inner rfl rfl ⟨Nat.le_of_ble_eq_true rfl, Nat.le_of_ble_eq_true rfl⟩ (Nat.le_of_ble_eq_true rfl) ⟨Nat.zero_le _, Nat.zero_le _⟩ dX9_number_60 (fun r60 M60 H locs hw hP hS => ?_)
    refine lv_istore (pc := 63) (lv' := [(4, .int r60), (3, .int x3_53), (2, .int x2_26), (0, .ref (ad (29, 0, 0, 0))), (1, .int a1)]) hx hb dX9_number_63 hl (by decide) rfl (fun ls hl => ?_)
    refine lv_iload (pc := 65) hx hb dX9_number_65 (lv_at hl 0 rfl) ?_
    refine lv_if_le (pc := 67) (tgt := 76) hx hb dX9_number_67 (by decide) (fun h => ?_) (fun h => ?_)
    · replace hw := if_t h hw
      refine lv_iload (pc := 76) hx hb dX9_number_76 (lv_at hl 0 rfl) ?_
      refine lv_iconst (pc := 78) (v := (1 : Int32)) hx hb dX9_number_78 (by decide) ?_
      refine lv_icmp_le (pc := 79) (tgt := 91) hx hb dX9_number_79 (by decide) (fun h => ?_) (fun h => ?_)
      · replace hw := if_t h hw
        exact j_X9_number_91 C hC h0 x2_26 x3_53 M60 _ _ _ hw hP hS (lv_sub hl [3, 4, 2, 1] rfl)
      · replace hw := if_f h hw
        refine lv_iload_n (pc := 82) hx hb dX9_number_82 rfl (lv_at hl 1 rfl) ?_
        refine lv_ldc (pc := 83) (own := RX9) (v := (-2000000 : Int32)) hx hb hown (hts _ mw_715) dX9_number_83 ?_
        refine lv_icmp_ne (pc := 85) (tgt := 91) hx hb dX9_number_85 (by decide) (fun h => ?_) (fun h => ?_)
        · replace hw := if_f h hw
          exact j_X9_number_91 C hC h0 x2_26 x3_53 M60 _ _ _ hw hP hS (lv_sub hl [3, 4, 2, 1] rfl)
        · replace hw := if_t h hw
          refine lv_ldc (pc := 88) (own := RX9) (v := (-2000000 : Int32)) hx hb hown (hts _ mw_715) dX9_number_88 ?_
          exact r_iret (pc := 90) C hP hS hw dX9_number_90
    · replace hw := if_f h hw
      refine lv_iload_n (pc := 70) hx hb dX9_number_70 rfl (lv_at hl 2 rfl) ?_
      refine lv_ldc (pc := 71) (own := RX9) (v := (-2000000 : Int32)) hx hb hown (hts _ mw_715) dX9_number_71 ?_
      refine lv_icmp_eq (pc := 73) (tgt := 88) hx hb dX9_number_73 (by decide) (fun h => ?_) (fun h => ?_)
      · replace hw := if_t h hw
        refine lv_ldc (pc := 88) (own := RX9) (v := (-2000000 : Int32)) hx hb hown (hts _ mw_715) dX9_number_88 ?_
        exact r_iret (pc := 90) C hP hS hw dX9_number_90
      · replace hw := if_f h hw
        refine lv_iload (pc := 76) hx hb dX9_number_76 (lv_at hl 0 rfl) ?_
        refine lv_iconst (pc := 78) (v := (1 : Int32)) hx hb dX9_number_78 (by decide) ?_
        refine lv_icmp_le (pc := 79) (tgt := 91) hx hb dX9_number_79 (by decide) (fun h => ?_) (fun h => ?_)
        · replace hw := if_t h hw
          exact j_X9_number_91 C hC h0 x2_26 x3_53 M60 _ _ _ hw hP hS (lv_sub hl [3, 4, 2, 1] rfl)
        · replace hw := if_f h hw
          refine lv_iload_n (pc := 82) hx hb dX9_number_82 rfl (lv_at hl 1 rfl) ?_
          refine lv_ldc (pc := 83) (own := RX9) (v := (-2000000 : Int32)) hx hb hown (hts _ mw_715) dX9_number_83 ?_
          refine lv_icmp_ne (pc := 85) (tgt := 91) hx hb dX9_number_85 (by decide) (fun h => ?_) (fun h => ?_)
          · replace hw := if_f h hw
            exact j_X9_number_91 C hC h0 x2_26 x3_53 M60 _ _ _ hw hP hS (lv_sub hl [3, 4, 2, 1] rfl)
          · replace hw := if_t h hw
            refine lv_ldc (pc := 88) (own := RX9) (v := (-2000000 : Int32)) hx hb hown (hts _ mw_715) dX9_number_88 ?_
            exact r_iret (pc := 90) C hP hS hw dX9_number_90
  · replace hw := if_f h hw
    refine lv_aload_n (pc := 42) hx hb dX9_number_42 rfl (lv_at hl 1 rfl) ?_
    refine gf_724 (pc := 43) C hP h0 dX9_number_43 ?_
    refine lv_iload_n (pc := 46) hx hb dX9_number_46 rfl (lv_at hl 2 rfl) ?_
    refine r_ialdK (pc := 47) (n := 60) (k := a1.toNatClampNeg) C hP (cl_29_8 hC h0) (fun _ _ _ _ => rfl) hw.1 rfl dX9_number_47 ?_
    replace hw := hw.2
    refine lv_goto (pc := 48) (tgt := 52) hx hb dX9_number_48 (by decide) ?_
    refine r_ialdK (pc := 52) (n := 60) (k := (M.1 (37, 0, 0, 0) a1.toNatClampNeg).toNatClampNeg) C hP (cl_29_11 hC h0) (fun _ _ _ _ => rfl) hw.1 rfl dX9_number_52 ?_
    replace hw := hw.2
    refine lv_topi (fun x3_53 ex3_53 => ?_)
    replace hw := hw x3_53 ex3_53
    refine lv_istore_n (pc := 53) (lv' := [(3, .int x3_53), (2, .int x2_26), (0, .ref (ad (29, 0, 0, 0))), (1, .int a1)]) hx hb dX9_number_53 rfl hl (by decide) rfl (fun ls hl => ?_)
    refine lv_aload_n (pc := 54) hx hb dX9_number_54 rfl (lv_at hl 2 rfl) ?_
    refine gf_722 (pc := 55) C hP h0 dX9_number_55 ?_
    refine lv_iload_n (pc := 58) hx hb dX9_number_58 rfl (lv_at hl 3 rfl) ?_
    refine r_ialdK (pc := 59) (n := 60) (k := a1.toNatClampNeg) C hP (cl_29_6 hC h0) (fun _ _ _ _ => rfl) hw.1 rfl dX9_number_59 ?_
    replace hw := hw.2
    refine r_cSI (pc := 60) (rest := []) (As := [.int (M.1 (35, 0, 0, 0) a1.toNatClampNeg)]) C hl.1 hP hS (k_X9_inner l G hC  hw) mw_853 mw_854 mw_65 mw_855 ⟨rfl, rfl⟩ hd_X9_inner rfl rfl ⟨Nat.le_of_ble_eq_true rfl, Nat.le_of_ble_eq_true rfl⟩ (Nat.le_of_ble_eq_true rfl) ⟨Nat.zero_le _, Nat.zero_le _⟩ dX9_number_60 (fun r60 M60 H locs hw hP hS => ?_)
    refine lv_istore (pc := 63) (lv' := [(4, .int r60), (3, .int x3_53), (2, .int x2_26), (0, .ref (ad (29, 0, 0, 0))), (1, .int a1)]) hx hb dX9_number_63 hl (by decide) rfl (fun ls hl => ?_)
    refine lv_iload (pc := 65) hx hb dX9_number_65 (lv_at hl 0 rfl) ?_
    refine lv_if_le (pc := 67) (tgt := 76) hx hb dX9_number_67 (by decide) (fun h => ?_) (fun h => ?_)
    · replace hw := if_t h hw
      refine lv_iload (pc := 76) hx hb dX9_number_76 (lv_at hl 0 rfl) ?_
      refine lv_iconst (pc := 78) (v := (1 : Int32)) hx hb dX9_number_78 (by decide) ?_
      refine lv_icmp_le (pc := 79) (tgt := 91) hx hb dX9_number_79 (by decide) (fun h => ?_) (fun h => ?_)
      · replace hw := if_t h hw
        exact j_X9_number_91 C hC h0 x2_26 x3_53 M60 _ _ _ hw hP hS (lv_sub hl [3, 4, 2, 1] rfl)
      · replace hw := if_f h hw
        refine lv_iload_n (pc := 82) hx hb dX9_number_82 rfl (lv_at hl 1 rfl) ?_
        refine lv_ldc (pc := 83) (own := RX9) (v := (-2000000 : Int32)) hx hb hown (hts _ mw_715) dX9_number_83 ?_
        refine lv_icmp_ne (pc := 85) (tgt := 91) hx hb dX9_number_85 (by decide) (fun h => ?_) (fun h => ?_)
        · replace hw := if_f h hw
          exact j_X9_number_91 C hC h0 x2_26 x3_53 M60 _ _ _ hw hP hS (lv_sub hl [3, 4, 2, 1] rfl)
        · replace hw := if_t h hw
          refine lv_ldc (pc := 88) (own := RX9) (v := (-2000000 : Int32)) hx hb hown (hts _ mw_715) dX9_number_88 ?_
          exact r_iret (pc := 90) C hP hS hw dX9_number_90
    · replace hw := if_f h hw
      refine lv_iload_n (pc := 70) hx hb dX9_number_70 rfl (lv_at hl 2 rfl) ?_
      refine lv_ldc (pc := 71) (own := RX9) (v := (-2000000 : Int32)) hx hb hown (hts _ mw_715) dX9_number_71 ?_
      refine lv_icmp_eq (pc := 73) (tgt := 88) hx hb dX9_number_73 (by decide) (fun h => ?_) (fun h => ?_)
      · replace hw := if_t h hw
        refine lv_ldc (pc := 88) (own := RX9) (v := (-2000000 : Int32)) hx hb hown (hts _ mw_715) dX9_number_88 ?_
        exact r_iret (pc := 90) C hP hS hw dX9_number_90
      · replace hw := if_f h hw
        refine lv_iload (pc := 76) hx hb dX9_number_76 (lv_at hl 0 rfl) ?_
        refine lv_iconst (pc := 78) (v := (1 : Int32)) hx hb dX9_number_78 (by decide) ?_
        refine lv_icmp_le (pc := 79) (tgt := 91) hx hb dX9_number_79 (by decide) (fun h => ?_) (fun h => ?_)
        · replace hw := if_t h hw
          exact j_X9_number_91 C hC h0 x2_26 x3_53 M60 _ _ _ hw hP hS (lv_sub hl [3, 4, 2, 1] rfl)
        · replace hw := if_f h hw
          refine lv_iload_n (pc := 82) hx hb dX9_number_82 rfl (lv_at hl 1 rfl) ?_
          refine lv_ldc (pc := 83) (own := RX9) (v := (-2000000 : Int32)) hx hb hown (hts _ mw_715) dX9_number_83 ?_
          refine lv_icmp_ne (pc := 85) (tgt := 91) hx hb dX9_number_85 (by decide) (fun h => ?_) (fun h => ?_)
          · replace hw := if_f h hw
            exact j_X9_number_91 C hC h0 x2_26 x3_53 M60 _ _ _ hw hP hS (lv_sub hl [3, 4, 2, 1] rfl)
          · replace hw := if_t h hw
            refine lv_ldc (pc := 88) (own := RX9) (v := (-2000000 : Int32)) hx hb hown (hts _ mw_715) dX9_number_88 ?_
            exact r_iret (pc := 90) C hP hS hw dX9_number_90
set_option maxHeartbeats 4000000 in
set_option maxRecDepth 100000 in
theorem j_X9_number_0 {a1 : Int32} (C : cx p s m args meth c cX9_number 5 (some .int) RX9 G) (hC : clo I) (h0 : I (29, 0, 0, 0)) {Q : Int32 → Mem → Prop} : ∀ (M : Mem) (H : Heap) (locs : List Loc) (ls : Array Slot), w_X9_number a1 Q M → wd G I ad M H → va_S (fA I ad) s.heap H locs → lv_has ls 5 [(0, .ref (ad (29, 0, 0, 0))), (1, .int a1)] → W p l e rm_X9_number s m args below meth c H locs 0 0 (MQ below (qI G I ad Q) args s 0 0 (fA I ad)) (F0 m 0 ls []) := by
  have hx := C.1
  have hb := C.2.1
  have hown := C.2.2.2.1
  have hts := C.2.2.2.2.1
  intro M H locs ls hw hP hS hl
  unfold w_X9_number at hw
  refine lv_aload_n (pc := 0) hx hb dX9_number_0 rfl (lv_at hl 0 rfl) ?_
  refine gf_727 (pc := 1) C hP h0 dX9_number_1 ?_
  refine lv_aload_n (pc := 4) hx hb dX9_number_4 rfl (lv_at hl 0 rfl) ?_
  refine gf_723 (pc := 5) C hP h0 dX9_number_5 ?_
  refine lv_iload_n (pc := 8) hx hb dX9_number_8 rfl (lv_at hl 1 rfl) ?_
  refine r_ialdK (pc := 9) (n := 60) (k := a1.toNatClampNeg) C hP (cl_29_7 hC h0) (fun _ _ _ _ => rfl) hw.1 rfl dX9_number_9 ?_
  replace hw := hw.2
  refine lv_bipush (pc := 10) (v := (60 : Int32)) hx hb dX9_number_10 (by decide) ?_
  refine lv_icmp_ge (pc := 12) (tgt := 24) hx hb dX9_number_12 (by decide) (fun h => ?_) (fun h => ?_)
  · replace hw := if_t h hw
    refine lv_iconst (pc := 24) (v := (0 : Int32)) hx hb dX9_number_24 (by decide) ?_
    exact j_X9_number_25 C hC h0 (0 : Int32) M _ _ _ hw hP hS (lv_sub hl [0, 1] rfl) (cl_29_11 hC h0)
  · replace hw := if_f h hw
    refine lv_aload_n (pc := 15) hx hb dX9_number_15 rfl (lv_at hl 0 rfl) ?_
    refine gf_723 (pc := 16) C hP h0 dX9_number_16 ?_
    refine lv_iload_n (pc := 19) hx hb dX9_number_19 rfl (lv_at hl 1 rfl) ?_
    refine r_ialdK (pc := 20) (n := 60) (k := a1.toNatClampNeg) C hP (cl_29_7 hC h0) (fun _ _ _ _ => rfl) hw.1 rfl dX9_number_20 ?_
    replace hw := hw.2
    refine lv_goto (pc := 21) (tgt := 25) hx hb dX9_number_21 (by decide) ?_
    exact j_X9_number_25 C hC h0 (M.1 (36, 0, 0, 0) a1.toNatClampNeg) M _ _ _ hw hP hS (lv_sub hl [0, 1] rfl) (cl_29_11 hC h0)
end
theorem k_X9_number (l : Launch) (G : GG) {I : ix → Prop} {ad : ix → Nat} (hC : clo I) {a1 : Int32} (h0 : I (29, 0, 0, 0)) {Q : Int32 → Mem → Prop} {M : Mem} (hw : w_X9_number a1 Q M) : Met l yX9_number (wW yX9_number cX9_number 5 (some .int)) rm_X9_number (va_Pc [.ref (ad (29, 0, 0, 0)), .int a1] (fun U => wd G I ad M U.heap ∧ wK G U)) (qI G I ad Q) 0 0 (fA I ad) := met_of (by decide +kernel) (Nat.le_of_ble_eq_true rfl) (fun p e s m below meth c C hP hS ls hl => j_X9_number_0 C hC h0 _ _ _ _ hw hP hS hl)
section
variable {p : Program} {l : Launch} {e : Env} {s : State} {m : MethodId} {args : Array Value} {below : List Frame} {meth : Method} {c : Code} 
variable  {G : GG} {I : ix → Prop} {ad : ix → Nat}
set_option maxHeartbeats 4000000 in
set_option maxRecDepth 100000 in
theorem j_X9_layRow_7 (C : cx p s m args meth c cX9_layRow 2 none RX9 G) (hC : clo I) (h0 : I (29, 0, 0, 0)) {Q : Mem → Prop} : ∀ (n : Nat), ∀ (x1 : Int32) (M : Mem) (H : Heap) (locs : List Loc) (ls : Array Slot), w_X9_layRow_7 Q n x1 M → wd G I ad M H → va_S (fA I ad) s.heap H locs → lv_has ls 2 [(0, .ref (ad (29, 0, 0, 0))), (1, .int x1)] → W p l e rm_X9_layRow s m args below meth c H locs 0 0 (MQ below (qV G I ad Q) args s 0 0 (fA I ad)) (F0 m 7 ls []) := by
  have hx := C.1
  have hb := C.2.1
  have hown := C.2.2.2.1
  have hts := C.2.2.2.2.1
  intro n
  induction n with
  | zero =>
    intro x1 M H locs ls hw hP hS hl
    rw [w_X9_layRow_7] at hw
    exact hw.elim
  | succ n ih =>
    intro x1 M H locs ls hw hP hS hl
    rw [w_X9_layRow_7] at hw
    refine lv_iload_n (pc := 7) hx hb dX9_layRow_7 rfl (lv_at hl 1 rfl) ?_
    refine lv_if_lt (pc := 8) (tgt := 55) hx hb dX9_layRow_8 (by decide) (fun h => ?_) (fun h => ?_)
    · replace hw := if_t h hw
      exact r_vret (pc := 55) C hP hS hw dX9_layRow_55
    · replace hw := if_f h hw
      refine lv_aload_n (pc := 11) hx hb dX9_layRow_11 rfl (lv_at hl 0 rfl) ?_
      refine gf_722 (pc := 12) C hP h0 dX9_layRow_12 ?_
      refine lv_iload_n (pc := 15) hx hb dX9_layRow_15 rfl (lv_at hl 1 rfl) ?_
      refine r_ialdK (pc := 16) (n := 60) (k := x1.toNatClampNeg) C hP (cl_29_6 hC h0) (fun _ _ _ _ => rfl) hw.1 rfl dX9_layRow_16 ?_
      replace hw := hw.2
      refine lv_ldc (pc := 17) (own := RX9) (v := (-2000000 : Int32)) hx hb hown (hts _ mw_715) dX9_layRow_17 ?_
      refine lv_icmp_eq (pc := 19) (tgt := 49) hx hb dX9_layRow_19 (by decide) (fun h => ?_) (fun h => ?_)
      · replace hw := if_t h hw
        refine lv_iinc (pc := 49) (v := x1 + (-1)) (lv' := [(1, .int (x1 + (-1))), (0, .ref (ad (29, 0, 0, 0)))]) hx hb dX9_layRow_49 hl (k := 1) rfl rfl (by decide) rfl (fun ls hl => ?_)
        refine lv_goto (pc := 52) (tgt := 7) hx hb dX9_layRow_52 (by decide) ?_
        exact ih (x1 + (-1)) M _ _ _ hw hP hS (lv_sub hl [1, 0] rfl)
      · replace hw := if_f h hw
        refine lv_aload_n (pc := 22) hx hb dX9_layRow_22 rfl (lv_at hl 0 rfl) ?_
        refine gf_727 (pc := 23) C hP h0 dX9_layRow_23 ?_
        refine lv_iload_n (pc := 26) hx hb dX9_layRow_26 rfl (lv_at hl 1 rfl) ?_
        refine lv_aload_n (pc := 27) hx hb dX9_layRow_27 rfl (lv_at hl 0 rfl) ?_
        refine lv_iload_n (pc := 28) hx hb dX9_layRow_28 rfl (lv_at hl 1 rfl) ?_
        refine r_cVI (pc := 29) (rest := [.int x1, .ref (ad (40, 0, 0, 0))]) (As := [.int x1]) C hl.1 hP hS (k_X9_isTerm l G hC h0 hw) h0 rfl rfl mw_868 mw_870 mw_44 mw_65 mw_871 ⟨rfl, rfl⟩ hd_X9_isTerm rfl rfl ⟨Nat.le_of_ble_eq_true rfl, Nat.le_of_ble_eq_true rfl⟩ (Nat.le_of_ble_eq_true rfl) ⟨Nat.zero_le _, Nat.zero_le _⟩ dX9_layRow_29 (fun r29 M29 H locs hw hP hS => ?_)
        refine lv_if_eq (pc := 32) (tgt := 43) hx hb dX9_layRow_32 (by decide) (fun h => ?_) (fun h => ?_)
        · replace hw := if_t h hw
          refine lv_aload_n (pc := 43) hx hb dX9_layRow_43 rfl (lv_at hl 0 rfl) ?_
          refine lv_iload_n (pc := 44) hx hb dX9_layRow_44 rfl (lv_at hl 1 rfl) ?_
          refine r_cVI (pc := 45) (rest := [.int x1, .ref (ad (40, 0, 0, 0))]) (As := [.int x1]) C hl.1 hP hS (k_X9_truthAt l G hC h0 hw) h0 rfl rfl mw_890 mw_892 mw_47 mw_65 mw_893 ⟨rfl, rfl⟩ hd_X9_truthAt rfl rfl ⟨Nat.le_of_ble_eq_true rfl, Nat.le_of_ble_eq_true rfl⟩ (Nat.le_of_ble_eq_true rfl) ⟨Nat.zero_le _, Nat.zero_le _⟩ dX9_layRow_45 (fun r45 M45 H locs hw hP hS => ?_)
          refine r_iastK (pc := 48) (n := 60) (k := x1.toNatClampNeg) C hP hS (cl_29_11 hC h0) (fun _ _ _ _ => rfl) hw.1 rfl dX9_layRow_48 (fun H locs hP hS => ?_)
          replace hw := hw.2
          refine lv_iinc (pc := 49) (v := x1 + (-1)) (lv' := [(1, .int (x1 + (-1))), (0, .ref (ad (29, 0, 0, 0)))]) hx hb dX9_layRow_49 hl (k := 1) rfl rfl (by decide) rfl (fun ls hl => ?_)
          refine lv_goto (pc := 52) (tgt := 7) hx hb dX9_layRow_52 (by decide) ?_
          exact ih (x1 + (-1)) (mu M45 (40, 0, 0, 0) (x1.toNatClampNeg) r45) _ _ _ hw hP hS (lv_sub hl [1, 0] rfl)
        · replace hw := if_f h hw
          refine lv_aload_n (pc := 35) hx hb dX9_layRow_35 rfl (lv_at hl 0 rfl) ?_
          refine lv_iload_n (pc := 36) hx hb dX9_layRow_36 rfl (lv_at hl 1 rfl) ?_
          refine r_cVI (pc := 37) (rest := [.int x1, .ref (ad (40, 0, 0, 0))]) (As := [.int x1]) C hl.1 hP hS (k_X9_number l G hC h0 hw) h0 rfl rfl mw_872 mw_874 mw_45 mw_65 mw_875 ⟨rfl, rfl⟩ hd_X9_number rfl rfl ⟨Nat.le_of_ble_eq_true rfl, Nat.le_of_ble_eq_true rfl⟩ (Nat.le_of_ble_eq_true rfl) ⟨Nat.zero_le _, Nat.zero_le _⟩ dX9_layRow_37 (fun r37 M37 H locs hw hP hS => ?_)
          refine lv_goto (pc := 40) (tgt := 48) hx hb dX9_layRow_40 (by decide) ?_
          refine r_iastK (pc := 48) (n := 60) (k := x1.toNatClampNeg) C hP hS (cl_29_11 hC h0) (fun _ _ _ _ => rfl) hw.1 rfl dX9_layRow_48 (fun H locs hP hS => ?_)
          replace hw := hw.2
          refine lv_iinc (pc := 49) (v := x1 + (-1)) (lv' := [(1, .int (x1 + (-1))), (0, .ref (ad (29, 0, 0, 0)))]) hx hb dX9_layRow_49 hl (k := 1) rfl rfl (by decide) rfl (fun ls hl => ?_)
          refine lv_goto (pc := 52) (tgt := 7) hx hb dX9_layRow_52 (by decide) ?_
          exact ih (x1 + (-1)) (mu M37 (40, 0, 0, 0) (x1.toNatClampNeg) r37) _ _ _ hw hP hS (lv_sub hl [1, 0] rfl)
set_option maxHeartbeats 4000000 in
set_option maxRecDepth 100000 in
theorem j_X9_layRow_0 (C : cx p s m args meth c cX9_layRow 2 none RX9 G) (hC : clo I) (h0 : I (29, 0, 0, 0)) {Q : Mem → Prop} : ∀ (M : Mem) (H : Heap) (locs : List Loc) (ls : Array Slot), w_X9_layRow Q M → wd G I ad M H → va_S (fA I ad) s.heap H locs → lv_has ls 2 [(0, .ref (ad (29, 0, 0, 0)))] → W p l e rm_X9_layRow s m args below meth c H locs 0 0 (MQ below (qV G I ad Q) args s 0 0 (fA I ad)) (F0 m 0 ls []) := by
  have hx := C.1
  have hb := C.2.1
  have hown := C.2.2.2.1
  have hts := C.2.2.2.2.1
  intro M H locs ls hw hP hS hl
  unfold w_X9_layRow at hw
  refine lv_aload_n (pc := 0) hx hb dX9_layRow_0 rfl (lv_at hl 0 rfl) ?_
  refine gf_720 (pc := 1) C hP h0 dX9_layRow_1 ?_
  refine lv_iconst (pc := 4) (v := (1 : Int32)) hx hb dX9_layRow_4 (by decide) ?_
  refine lv_isub (pc := 5) hx hb dX9_layRow_5 ?_
  refine lv_topi (fun x1_6 ex1_6 => ?_)
  replace hw := hw x1_6 ex1_6
  refine lv_istore_n (pc := 6) (lv' := [(1, .int x1_6), (0, .ref (ad (29, 0, 0, 0)))]) hx hb dX9_layRow_6 rfl hl (by decide) rfl (fun ls hl => ?_)
  obtain ⟨n0, hw⟩ := hw
  exact j_X9_layRow_7 C hC h0 n0 x1_6 M _ _ _ hw hP hS (lv_sub hl [1, 0] rfl)
end
theorem k_X9_layRow (l : Launch) (G : GG) {I : ix → Prop} {ad : ix → Nat} (hC : clo I) (h0 : I (29, 0, 0, 0)) {Q : Mem → Prop} {M : Mem} (hw : w_X9_layRow Q M) : Met l yX9_layRow (wW yX9_layRow cX9_layRow 2 none) rm_X9_layRow (va_Pc [.ref (ad (29, 0, 0, 0))] (fun U => wd G I ad M U.heap ∧ wK G U)) (qV G I ad Q) 0 0 (fA I ad) := met_of (by decide +kernel) (Nat.le_of_ble_eq_true rfl) (fun p e s m below meth c C hP hS ls hl => j_X9_layRow_0 C hC h0 _ _ _ _ hw hP hS hl)
section
variable {p : Program} {l : Launch} {e : Env} {s : State} {m : MethodId} {args : Array Value} {below : List Frame} {meth : Method} {c : Code} 
variable  {G : GG} {I : ix → Prop} {ad : ix → Nat}
set_option maxHeartbeats 4000000 in
set_option maxRecDepth 100000 in
theorem j_X9_truthOfRow_2 {a1 : Int32} {a2 : Int32} (C : cx p s m args meth c cX9_truthOfRow 4 (some .int) RX9 G) (hC : clo I) (h0 : I (29, 0, 0, 0)) {Q : Int32 → Mem → Prop} : ∀ (n : Nat), ∀ (x3 : Int32) (M : Mem) (H : Heap) (locs : List Loc) (ls : Array Slot), w_X9_truthOfRow_2 a1 a2 Q n x3 M → wd G I ad M H → va_S (fA I ad) s.heap H locs → lv_has ls 4 [(0, .ref (ad (29, 0, 0, 0))), (1, .int a1), (2, .int a2), (3, .int x3)] → W p l e rm_X9_truthOfRow s m args below meth c H locs 0 0 (MQ below (qI G I ad Q) args s 0 0 (fA I ad)) (F0 m 2 ls []) := by
  have hx := C.1
  have hb := C.2.1
  have hown := C.2.2.2.1
  have hts := C.2.2.2.2.1
  intro n
  induction n with
  | zero =>
    intro x3 M H locs ls hw hP hS hl
    rw [w_X9_truthOfRow_2] at hw
    exact hw.elim
  | succ n ih =>
    intro x3 M H locs ls hw hP hS hl
    rw [w_X9_truthOfRow_2] at hw
    refine lv_iload_n (pc := 2) hx hb dX9_truthOfRow_2 rfl (lv_at hl 3 rfl) ?_
    refine lv_iconst (pc := 3) (v := (4 : Int32)) hx hb dX9_truthOfRow_3 (by decide) ?_
    refine lv_icmp_ge (pc := 4) (tgt := 26) hx hb dX9_truthOfRow_4 (by decide) (fun h => ?_) (fun h => ?_)
    · replace hw := if_t h hw
      refine lv_aload_n (pc := 26) hx hb dX9_truthOfRow_26 rfl (lv_at hl 0 rfl) ?_
      refine r_cVV (pc := 27) (rest := []) (As := []) C hl.1 hP hS (k_X9_layRow l G hC h0 hw) h0 rfl rfl mw_864 mw_866 mw_43 mw_65 mw_867 ⟨rfl, rfl⟩ hd_X9_layRow rfl rfl ⟨Nat.le_of_ble_eq_true rfl, Nat.le_of_ble_eq_true rfl⟩ (Nat.le_of_ble_eq_true rfl) ⟨Nat.zero_le _, Nat.zero_le _⟩ dX9_truthOfRow_27 (fun M27 H locs hw hP hS => ?_)
      refine lv_aload_n (pc := 30) hx hb dX9_truthOfRow_30 rfl (lv_at hl 0 rfl) ?_
      refine gf_727 (pc := 31) C hP h0 dX9_truthOfRow_31 ?_
      refine lv_iconst (pc := 34) (v := (0 : Int32)) hx hb dX9_truthOfRow_34 (by decide) ?_
      refine r_ialdK (pc := 35) (n := 60) (k := 0) C hP (cl_29_11 hC h0) (fun _ _ _ _ => rfl) (vpc (by decide)) (by decide) dX9_truthOfRow_35 ?_
      exact r_iret (pc := 36) C hP hS hw dX9_truthOfRow_36
    · replace hw := if_f h hw
      refine lv_aload_n (pc := 7) hx hb dX9_truthOfRow_7 rfl (lv_at hl 0 rfl) ?_
      refine gf_728 (pc := 8) C hP h0 dX9_truthOfRow_8 ?_
      refine lv_iload_n (pc := 11) hx hb dX9_truthOfRow_11 rfl (lv_at hl 3 rfl) ?_
      refine lv_aload_n (pc := 12) hx hb dX9_truthOfRow_12 rfl (lv_at hl 0 rfl) ?_
      refine lv_iload_n (pc := 13) hx hb dX9_truthOfRow_13 rfl (lv_at hl 1 rfl) ?_
      refine lv_iload_n (pc := 14) hx hb dX9_truthOfRow_14 rfl (lv_at hl 2 rfl) ?_
      refine lv_iload_n (pc := 15) hx hb dX9_truthOfRow_15 rfl (lv_at hl 3 rfl) ?_
      refine r_cVI (pc := 16) (rest := [.int x3, .ref (ad (41, 0, 0, 0))]) (As := [.int a1, .int a2, .int x3]) C hl.1 hP hS (k_X9_at l G hC h0 hw) h0 rfl rfl mw_798 mw_800 mw_38 mw_65 mw_801 ⟨rfl, rfl⟩ hd_X9_at rfl rfl ⟨Nat.le_of_ble_eq_true rfl, Nat.le_of_ble_eq_true rfl⟩ (Nat.le_of_ble_eq_true rfl) ⟨Nat.zero_le _, Nat.zero_le _⟩ dX9_truthOfRow_16 (fun r16 M16 H locs hw hP hS => ?_)
      refine r_iastK (pc := 19) (n := 4) (k := x3.toNatClampNeg) C hP hS (cl_29_12 hC h0) (fun _ _ _ _ => rfl) hw.1 rfl dX9_truthOfRow_19 (fun H locs hP hS => ?_)
      replace hw := hw.2
      refine lv_iinc (pc := 20) (v := x3 + 1) (lv' := [(3, .int (x3 + 1)), (0, .ref (ad (29, 0, 0, 0))), (1, .int a1), (2, .int a2)]) hx hb dX9_truthOfRow_20 hl (k := 3) rfl rfl (by decide) rfl (fun ls hl => ?_)
      refine lv_goto (pc := 23) (tgt := 2) hx hb dX9_truthOfRow_23 (by decide) ?_
      exact ih (x3 + 1) (mu M16 (41, 0, 0, 0) (x3.toNatClampNeg) r16) _ _ _ hw hP hS (lv_sub hl [1, 2, 3, 0] rfl)
set_option maxHeartbeats 4000000 in
set_option maxRecDepth 100000 in
theorem j_X9_truthOfRow_0 {a1 : Int32} {a2 : Int32} (C : cx p s m args meth c cX9_truthOfRow 4 (some .int) RX9 G) (hC : clo I) (h0 : I (29, 0, 0, 0)) {Q : Int32 → Mem → Prop} : ∀ (M : Mem) (H : Heap) (locs : List Loc) (ls : Array Slot), w_X9_truthOfRow a1 a2 Q M → wd G I ad M H → va_S (fA I ad) s.heap H locs → lv_has ls 4 [(0, .ref (ad (29, 0, 0, 0))), (1, .int a1), (2, .int a2)] → W p l e rm_X9_truthOfRow s m args below meth c H locs 0 0 (MQ below (qI G I ad Q) args s 0 0 (fA I ad)) (F0 m 0 ls []) := by
  have hx := C.1
  have hb := C.2.1
  have hown := C.2.2.2.1
  have hts := C.2.2.2.2.1
  intro M H locs ls hw hP hS hl
  unfold w_X9_truthOfRow at hw
  refine lv_iconst (pc := 0) (v := (0 : Int32)) hx hb dX9_truthOfRow_0 (by decide) ?_
  refine lv_istore_n (pc := 1) (lv' := [(3, .int (0 : Int32)), (0, .ref (ad (29, 0, 0, 0))), (1, .int a1), (2, .int a2)]) hx hb dX9_truthOfRow_1 rfl hl (by decide) rfl (fun ls hl => ?_)
  obtain ⟨n0, hw⟩ := hw
  exact j_X9_truthOfRow_2 C hC h0 n0 (0 : Int32) M _ _ _ hw hP hS (lv_sub hl [1, 2, 3, 0] rfl)
end
theorem k_X9_truthOfRow (l : Launch) (G : GG) {I : ix → Prop} {ad : ix → Nat} (hC : clo I) {a1 : Int32} {a2 : Int32} (h0 : I (29, 0, 0, 0)) {Q : Int32 → Mem → Prop} {M : Mem} (hw : w_X9_truthOfRow a1 a2 Q M) : Met l yX9_truthOfRow (wW yX9_truthOfRow cX9_truthOfRow 4 (some .int)) rm_X9_truthOfRow (va_Pc [.ref (ad (29, 0, 0, 0)), .int a1, .int a2] (fun U => wd G I ad M U.heap ∧ wK G U)) (qI G I ad Q) 0 0 (fA I ad) := met_of (by decide +kernel) (Nat.le_of_ble_eq_true rfl) (fun p e s m below meth c C hP hS ls hl => j_X9_truthOfRow_0 C hC h0 _ _ _ _ hw hP hS hl)
section
variable {p : Program} {l : Launch} {e : Env} {s : State} {m : MethodId} {args : Array Value} {below : List Frame} {meth : Method} {c : Code} 
variable  {G : GG} {I : ix → Prop} {ad : ix → Nat}
set_option maxHeartbeats 4000000 in
set_option maxRecDepth 100000 in
theorem j_X9_truth_0 {a1 : Int32} {a2 : Int32} (C : cx p s m args meth c cX9_truth 3 (some .int) RX9 G) (hC : clo I) (h0 : I (29, 0, 0, 0)) {Q : Int32 → Mem → Prop} : ∀ (M : Mem) (H : Heap) (locs : List Loc) (ls : Array Slot), w_X9_truth a1 a2 Q M → wd G I ad M H → va_S (fA I ad) s.heap H locs → lv_has ls 3 [(0, .ref (ad (29, 0, 0, 0))), (1, .int a1), (2, .int a2)] → W p l e rm_X9_truth s m args below meth c H locs 0 0 (MQ below (qI G I ad Q) args s 0 0 (fA I ad)) (F0 m 0 ls []) := by
  have hx := C.1
  have hb := C.2.1
  have hown := C.2.2.2.1
  have hts := C.2.2.2.2.1
  intro M H locs ls hw hP hS hl
  unfold w_X9_truth at hw
  refine lv_aload_n (pc := 0) hx hb dX9_truth_0 rfl (lv_at hl 0 rfl) ?_
  refine lv_iload_n (pc := 1) hx hb dX9_truth_1 rfl (lv_at hl 1 rfl) ?_
  refine lv_iload_n (pc := 2) hx hb dX9_truth_2 rfl (lv_at hl 2 rfl) ?_
  refine r_cVI (pc := 3) (rest := []) (As := [.int a1, .int a2]) C hl.1 hP hS (k_X9_isRow l G hC h0 hw) h0 rfl rfl mw_794 mw_796 mw_37 mw_65 mw_797 ⟨rfl, rfl⟩ hd_X9_isRow rfl rfl ⟨Nat.le_of_ble_eq_true rfl, Nat.le_of_ble_eq_true rfl⟩ (Nat.le_of_ble_eq_true rfl) ⟨Nat.zero_le _, Nat.zero_le _⟩ dX9_truth_3 (fun r3 M3 H locs hw hP hS => ?_)
  refine lv_if_ne (pc := 6) (tgt := 11) hx hb dX9_truth_6 (by decide) (fun h => ?_) (fun h => ?_)
  · replace hw := if_f h hw
    refine lv_aload_n (pc := 11) hx hb dX9_truth_11 rfl (lv_at hl 0 rfl) ?_
    refine r_cVI (pc := 12) (rest := []) (As := []) C hl.1 hP hS (k_X9_read l G hC h0 hw) h0 rfl rfl mw_843 mw_845 mw_41 mw_65 mw_846 ⟨rfl, rfl⟩ hd_X9_read rfl rfl ⟨Nat.le_of_ble_eq_true rfl, Nat.le_of_ble_eq_true rfl⟩ (Nat.le_of_ble_eq_true rfl) ⟨Nat.zero_le _, Nat.zero_le _⟩ dX9_truth_12 (fun r12 M12 H locs hw hP hS => ?_)
    refine lv_ldc (pc := 15) (own := RX9) (v := (-2000000 : Int32)) hx hb hown (hts _ mw_715) dX9_truth_15 ?_
    refine lv_icmp_eq (pc := 17) (tgt := 25) hx hb dX9_truth_17 (by decide) (fun h => ?_) (fun h => ?_)
    · replace hw := if_t h hw
      refine lv_aload_n (pc := 25) hx hb dX9_truth_25 rfl (lv_at hl 0 rfl) ?_
      refine lv_iload_n (pc := 26) hx hb dX9_truth_26 rfl (lv_at hl 1 rfl) ?_
      refine lv_iload_n (pc := 27) hx hb dX9_truth_27 rfl (lv_at hl 2 rfl) ?_
      refine r_cVI (pc := 28) (rest := []) (As := [.int a1, .int a2]) C hl.1 hP hS (k_X9_truthOfRow l G hC h0 hw) h0 rfl rfl mw_860 mw_862 mw_42 mw_65 mw_863 ⟨rfl, rfl⟩ hd_X9_truthOfRow rfl rfl ⟨Nat.le_of_ble_eq_true rfl, Nat.le_of_ble_eq_true rfl⟩ (Nat.le_of_ble_eq_true rfl) ⟨Nat.zero_le _, Nat.zero_le _⟩ dX9_truth_28 (fun r28 M28 H locs hw hP hS => ?_)
      exact r_iret (pc := 31) C hP hS hw dX9_truth_31
    · replace hw := if_f h hw
      refine lv_bipush (pc := 20) (v := (-5 : Int32)) hx hb dX9_truth_20 (by decide) ?_
      refine lv_goto (pc := 22) (tgt := 31) hx hb dX9_truth_22 (by decide) ?_
      exact r_iret (pc := 31) C hP hS hw dX9_truth_31
  · replace hw := if_t h hw
    refine lv_iconst (pc := 9) (v := (-1 : Int32)) hx hb dX9_truth_9 (by decide) ?_
    exact r_iret (pc := 10) C hP hS hw dX9_truth_10
end
theorem k_X9_truth (l : Launch) (G : GG) {I : ix → Prop} {ad : ix → Nat} (hC : clo I) {a1 : Int32} {a2 : Int32} (h0 : I (29, 0, 0, 0)) {Q : Int32 → Mem → Prop} {M : Mem} (hw : w_X9_truth a1 a2 Q M) : Met l yX9_truth (wW yX9_truth cX9_truth 3 (some .int)) rm_X9_truth (va_Pc [.ref (ad (29, 0, 0, 0)), .int a1, .int a2] (fun U => wd G I ad M U.heap ∧ wK G U)) (qI G I ad Q) 0 0 (fA I ad) := met_of (by decide +kernel) (Nat.le_of_ble_eq_true rfl) (fun p e s m below meth c C hP hS ls hl => j_X9_truth_0 C hC h0 _ _ _ _ hw hP hS hl)
section
variable {p : Program} {l : Launch} {e : Env} {s : State} {m : MethodId} {args : Array Value} {below : List Frame} {meth : Method} {c : Code} 
variable  {G : GG} {I : ix → Prop} {ad : ix → Nat}
set_option maxHeartbeats 4000000 in
set_option maxRecDepth 100000 in
theorem j_X9_bit_0 {a0 : Int32} (C : cx p s m args meth c cX9_bit 1 (some .int) RX9 G) (hC : clo I) {Q : Int32 → Mem → Prop} : ∀ (M : Mem) (H : Heap) (locs : List Loc) (ls : Array Slot), w_X9_bit a0 Q M → wd G I ad M H → va_S (fA I ad) s.heap H locs → lv_has ls 1 [(0, .int a0)] → W p l e rm_X9_bit s m args below meth c H locs 0 0 (MQ below (qI G I ad Q) args s 0 0 (fA I ad)) (F0 m 0 ls []) := by
  have hx := C.1
  have hb := C.2.1
  have hown := C.2.2.2.1
  have hts := C.2.2.2.2.1
  intro M H locs ls hw hP hS hl
  unfold w_X9_bit at hw
  refine lv_iload_n (pc := 0) hx hb dX9_bit_0 rfl (lv_at hl 0 rfl) ?_
  refine lv_iconst (pc := 1) (v := (1 : Int32)) hx hb dX9_bit_1 (by decide) ?_
  refine lv_icmp_ne (pc := 2) (tgt := 9) hx hb dX9_bit_2 (by decide) (fun h => ?_) (fun h => ?_)
  · replace hw := if_f h hw
    refine lv_iload_n (pc := 9) hx hb dX9_bit_9 rfl (lv_at hl 0 rfl) ?_
    refine lv_if_ne (pc := 10) (tgt := 17) hx hb dX9_bit_10 (by decide) (fun h => ?_) (fun h => ?_)
    · replace hw := if_f h hw
      refine lv_iconst (pc := 17) (v := (4 : Int32)) hx hb dX9_bit_17 (by decide) ?_
      exact r_iret (pc := 18) C hP hS hw dX9_bit_18
    · replace hw := if_t h hw
      refine lv_iconst (pc := 13) (v := (2 : Int32)) hx hb dX9_bit_13 (by decide) ?_
      refine lv_goto (pc := 14) (tgt := 18) hx hb dX9_bit_14 (by decide) ?_
      exact r_iret (pc := 18) C hP hS hw dX9_bit_18
  · replace hw := if_t h hw
    refine lv_iconst (pc := 5) (v := (1 : Int32)) hx hb dX9_bit_5 (by decide) ?_
    refine lv_goto (pc := 6) (tgt := 18) hx hb dX9_bit_6 (by decide) ?_
    exact r_iret (pc := 18) C hP hS hw dX9_bit_18
end
theorem k_X9_bit (l : Launch) (G : GG) {I : ix → Prop} {ad : ix → Nat} (hC : clo I) {a0 : Int32} {Q : Int32 → Mem → Prop} {M : Mem} (hw : w_X9_bit a0 Q M) : Met l yX9_bit (wW yX9_bit cX9_bit 1 (some .int)) rm_X9_bit (va_Pc [.int a0] (fun U => wd G I ad M U.heap ∧ wK G U)) (qI G I ad Q) 0 0 (fA I ad) := met_of (by decide +kernel) (Nat.le_of_ble_eq_true rfl) (fun p e s m below meth c C hP hS ls hl => j_X9_bit_0 C hC  _ _ _ _ hw hP hS hl)
section
variable {p : Program} {l : Launch} {e : Env} {s : State} {m : MethodId} {args : Array Value} {below : List Frame} {meth : Method} {c : Code} 
variable  {G : GG} {I : ix → Prop} {ad : ix → Nat}
set_option maxHeartbeats 4000000 in
set_option maxRecDepth 100000 in
theorem j_X9_mayAt_272 {a1 : Int32} {a2 : Int32} (C : cx p s m args meth c cX9_mayAt 9 (some .int) RX9 G) (hC : clo I) (h0 : I (29, 0, 0, 0)) {Q : Int32 → Mem → Prop} : ∀ (x4 : Int32) (x5 : Int32) (x6 : Int32) (t0 : Int32) (M : Mem) (H : Heap) (locs : List Loc) (ls : Array Slot), w_X9_mayAt_272 a1 a2 Q x4 x5 x6 t0 M → wd G I ad M H → va_S (fA I ad) s.heap H locs → lv_has ls 9 [(0, .ref (ad (29, 0, 0, 0))), (4, .int x4), (5, .int x5), (6, .int x6)] → W p l e rm_X9_mayAt s m args below meth c H locs 0 0 (MQ below (qI G I ad Q) args s 0 0 (fA I ad)) (F0 m 272 ls [.int t0]) := by
  have hx := C.1
  have hb := C.2.1
  have hown := C.2.2.2.1
  have hts := C.2.2.2.2.1
  intro x4 x5 x6 t0 M H locs ls hw hP hS hl
  unfold w_X9_mayAt_272 at hw
  refine lv_istore (pc := 272) (lv' := [(7, .int t0), (0, .ref (ad (29, 0, 0, 0))), (4, .int x4), (5, .int x5), (6, .int x6)]) hx hb dX9_mayAt_272 hl (by decide) rfl (fun ls hl => ?_)
  refine lv_iload (pc := 274) hx hb dX9_mayAt_274 (lv_at hl 4 rfl) ?_
  refine lv_aload_n (pc := 276) hx hb dX9_mayAt_276 rfl (lv_at hl 1 rfl) ?_
  refine gf_730 (pc := 277) C hP h0 dX9_mayAt_277 ?_
  refine lv_iload (pc := 280) hx hb dX9_mayAt_280 (lv_at hl 2 rfl) ?_
  refine r_ialdK (pc := 282) (n := 60) (k := x4.toNatClampNeg) C hP (cl_29_14 hC h0) (fun _ _ _ _ => rfl) hw.1 rfl dX9_mayAt_282 ?_
  replace hw := hw.2
  refine lv_aload_n (pc := 283) hx hb dX9_mayAt_283 rfl (lv_at hl 1 rfl) ?_
  refine gf_731 (pc := 284) C hP h0 dX9_mayAt_284 ?_
  refine lv_iload (pc := 287) hx hb dX9_mayAt_287 (lv_at hl 3 rfl) ?_
  refine r_ialdK (pc := 289) (n := 60) (k := x5.toNatClampNeg) C hP (cl_29_15 hC h0) (fun _ _ _ _ => rfl) hw.1 rfl dX9_mayAt_289 ?_
  replace hw := hw.2
  refine lv_icmp_gt (pc := 290) (tgt := 314) hx hb dX9_mayAt_290 (by decide) (fun h => ?_) (fun h => ?_)
  · replace hw := if_t h hw
    refine lv_iconst (pc := 314) (v := (0 : Int32)) hx hb dX9_mayAt_314 (by decide) ?_
    refine lv_iload (pc := 315) hx hb dX9_mayAt_315 (lv_at hl 0 rfl) ?_
    refine lv_if_eq (pc := 317) (tgt := 324) hx hb dX9_mayAt_317 (by decide) (fun h => ?_) (fun h => ?_)
    · replace hw := if_t h hw
      refine lv_iconst (pc := 324) (v := (2 : Int32)) hx hb dX9_mayAt_324 (by decide) ?_
      refine lv_iadd (pc := 325) hx hb dX9_mayAt_325 ?_
      refine lv_iadd (pc := 326) hx hb dX9_mayAt_326 ?_
      refine lv_topi (fun x6_327 ex6_327 => ?_)
      replace hw := hw x6_327 ex6_327
      refine lv_istore (pc := 327) (lv' := [(6, .int x6_327), (7, .int t0), (0, .ref (ad (29, 0, 0, 0))), (4, .int x4), (5, .int x5)]) hx hb dX9_mayAt_327 hl (by decide) rfl (fun ls hl => ?_)
      refine lv_iload (pc := 329) hx hb dX9_mayAt_329 (lv_at hl 0 rfl) ?_
      exact r_iret (pc := 331) C hP hS hw dX9_mayAt_331
    · replace hw := if_f h hw
      refine lv_iconst (pc := 320) (v := (0 : Int32)) hx hb dX9_mayAt_320 (by decide) ?_
      refine lv_goto (pc := 321) (tgt := 325) hx hb dX9_mayAt_321 (by decide) ?_
      refine lv_iadd (pc := 325) hx hb dX9_mayAt_325 ?_
      refine lv_iadd (pc := 326) hx hb dX9_mayAt_326 ?_
      refine lv_topi (fun x6_327 ex6_327 => ?_)
      replace hw := hw x6_327 ex6_327
      refine lv_istore (pc := 327) (lv' := [(6, .int x6_327), (7, .int t0), (0, .ref (ad (29, 0, 0, 0))), (4, .int x4), (5, .int x5)]) hx hb dX9_mayAt_327 hl (by decide) rfl (fun ls hl => ?_)
      refine lv_iload (pc := 329) hx hb dX9_mayAt_329 (lv_at hl 0 rfl) ?_
      exact r_iret (pc := 331) C hP hS hw dX9_mayAt_331
  · replace hw := if_f h hw
    refine lv_aload_n (pc := 293) hx hb dX9_mayAt_293 rfl (lv_at hl 1 rfl) ?_
    refine gf_730 (pc := 294) C hP h0 dX9_mayAt_294 ?_
    refine lv_iload (pc := 297) hx hb dX9_mayAt_297 (lv_at hl 3 rfl) ?_
    refine r_ialdK (pc := 299) (n := 60) (k := x5.toNatClampNeg) C hP (cl_29_14 hC h0) (fun _ _ _ _ => rfl) hw.1 rfl dX9_mayAt_299 ?_
    replace hw := hw.2
    refine lv_aload_n (pc := 300) hx hb dX9_mayAt_300 rfl (lv_at hl 1 rfl) ?_
    refine gf_731 (pc := 301) C hP h0 dX9_mayAt_301 ?_
    refine lv_iload (pc := 304) hx hb dX9_mayAt_304 (lv_at hl 2 rfl) ?_
    refine r_ialdK (pc := 306) (n := 60) (k := x4.toNatClampNeg) C hP (cl_29_15 hC h0) (fun _ _ _ _ => rfl) hw.1 rfl dX9_mayAt_306 ?_
    replace hw := hw.2
    refine lv_icmp_gt (pc := 307) (tgt := 314) hx hb dX9_mayAt_307 (by decide) (fun h => ?_) (fun h => ?_)
    · replace hw := if_t h hw
      refine lv_iconst (pc := 314) (v := (0 : Int32)) hx hb dX9_mayAt_314 (by decide) ?_
      refine lv_iload (pc := 315) hx hb dX9_mayAt_315 (lv_at hl 0 rfl) ?_
      refine lv_if_eq (pc := 317) (tgt := 324) hx hb dX9_mayAt_317 (by decide) (fun h => ?_) (fun h => ?_)
      · replace hw := if_t h hw
        refine lv_iconst (pc := 324) (v := (2 : Int32)) hx hb dX9_mayAt_324 (by decide) ?_
        refine lv_iadd (pc := 325) hx hb dX9_mayAt_325 ?_
        refine lv_iadd (pc := 326) hx hb dX9_mayAt_326 ?_
        refine lv_topi (fun x6_327 ex6_327 => ?_)
        replace hw := hw x6_327 ex6_327
        refine lv_istore (pc := 327) (lv' := [(6, .int x6_327), (7, .int t0), (0, .ref (ad (29, 0, 0, 0))), (4, .int x4), (5, .int x5)]) hx hb dX9_mayAt_327 hl (by decide) rfl (fun ls hl => ?_)
        refine lv_iload (pc := 329) hx hb dX9_mayAt_329 (lv_at hl 0 rfl) ?_
        exact r_iret (pc := 331) C hP hS hw dX9_mayAt_331
      · replace hw := if_f h hw
        refine lv_iconst (pc := 320) (v := (0 : Int32)) hx hb dX9_mayAt_320 (by decide) ?_
        refine lv_goto (pc := 321) (tgt := 325) hx hb dX9_mayAt_321 (by decide) ?_
        refine lv_iadd (pc := 325) hx hb dX9_mayAt_325 ?_
        refine lv_iadd (pc := 326) hx hb dX9_mayAt_326 ?_
        refine lv_topi (fun x6_327 ex6_327 => ?_)
        replace hw := hw x6_327 ex6_327
        refine lv_istore (pc := 327) (lv' := [(6, .int x6_327), (7, .int t0), (0, .ref (ad (29, 0, 0, 0))), (4, .int x4), (5, .int x5)]) hx hb dX9_mayAt_327 hl (by decide) rfl (fun ls hl => ?_)
        refine lv_iload (pc := 329) hx hb dX9_mayAt_329 (lv_at hl 0 rfl) ?_
        exact r_iret (pc := 331) C hP hS hw dX9_mayAt_331
    · replace hw := if_f h hw
      refine lv_iconst (pc := 310) (v := (1 : Int32)) hx hb dX9_mayAt_310 (by decide) ?_
      refine lv_goto (pc := 311) (tgt := 315) hx hb dX9_mayAt_311 (by decide) ?_
      refine lv_iload (pc := 315) hx hb dX9_mayAt_315 (lv_at hl 0 rfl) ?_
      refine lv_if_eq (pc := 317) (tgt := 324) hx hb dX9_mayAt_317 (by decide) (fun h => ?_) (fun h => ?_)
      · replace hw := if_t h hw
        refine lv_iconst (pc := 324) (v := (2 : Int32)) hx hb dX9_mayAt_324 (by decide) ?_
        refine lv_iadd (pc := 325) hx hb dX9_mayAt_325 ?_
        refine lv_iadd (pc := 326) hx hb dX9_mayAt_326 ?_
        refine lv_topi (fun x6_327 ex6_327 => ?_)
        replace hw := hw x6_327 ex6_327
        refine lv_istore (pc := 327) (lv' := [(6, .int x6_327), (7, .int t0), (0, .ref (ad (29, 0, 0, 0))), (4, .int x4), (5, .int x5)]) hx hb dX9_mayAt_327 hl (by decide) rfl (fun ls hl => ?_)
        refine lv_iload (pc := 329) hx hb dX9_mayAt_329 (lv_at hl 0 rfl) ?_
        exact r_iret (pc := 331) C hP hS hw dX9_mayAt_331
      · replace hw := if_f h hw
        refine lv_iconst (pc := 320) (v := (0 : Int32)) hx hb dX9_mayAt_320 (by decide) ?_
        refine lv_goto (pc := 321) (tgt := 325) hx hb dX9_mayAt_321 (by decide) ?_
        refine lv_iadd (pc := 325) hx hb dX9_mayAt_325 ?_
        refine lv_iadd (pc := 326) hx hb dX9_mayAt_326 ?_
        refine lv_topi (fun x6_327 ex6_327 => ?_)
        replace hw := hw x6_327 ex6_327
        refine lv_istore (pc := 327) (lv' := [(6, .int x6_327), (7, .int t0), (0, .ref (ad (29, 0, 0, 0))), (4, .int x4), (5, .int x5)]) hx hb dX9_mayAt_327 hl (by decide) rfl (fun ls hl => ?_)
        refine lv_iload (pc := 329) hx hb dX9_mayAt_329 (lv_at hl 0 rfl) ?_
        exact r_iret (pc := 331) C hP hS hw dX9_mayAt_331
set_option maxHeartbeats 4000000 in
set_option maxRecDepth 100000 in
theorem j_X9_mayAt_271 {a1 : Int32} {a2 : Int32} (C : cx p s m args meth c cX9_mayAt 9 (some .int) RX9 G) (hC : clo I) (h0 : I (29, 0, 0, 0)) {Q : Int32 → Mem → Prop} : ∀ (x4 : Int32) (x5 : Int32) (x6 : Int32) (M : Mem) (H : Heap) (locs : List Loc) (ls : Array Slot), w_X9_mayAt_271 a1 a2 Q x4 x5 x6 M → wd G I ad M H → va_S (fA I ad) s.heap H locs → lv_has ls 9 [(0, .ref (ad (29, 0, 0, 0))), (4, .int x4), (5, .int x5), (6, .int x6)] → W p l e rm_X9_mayAt s m args below meth c H locs 0 0 (MQ below (qI G I ad Q) args s 0 0 (fA I ad)) (F0 m 271 ls []) := by
  have hx := C.1
  have hb := C.2.1
  have hown := C.2.2.2.1
  have hts := C.2.2.2.2.1
  intro x4 x5 x6 M H locs ls hw hP hS hl
  unfold w_X9_mayAt_271 at hw
  refine lv_iconst (pc := 271) (v := (0 : Int32)) hx hb dX9_mayAt_271 (by decide) ?_
  exact j_X9_mayAt_272 C hC h0 x4 x5 x6 (0 : Int32) M _ _ _ hw hP hS (lv_sub hl [0, 1, 2, 3] rfl)
set_option maxHeartbeats 4000000 in
set_option maxRecDepth 100000 in
theorem j_X9_mayAt_134 {a1 : Int32} {a2 : Int32} (C : cx p s m args meth c cX9_mayAt 9 (some .int) RX9 G) (hC : clo I) (h0 : I (29, 0, 0, 0)) {Q : Int32 → Mem → Prop} : ∀ (x3 : Int32) (x4 : Int32) (x5 : Int32) (t0 : Int32) (M : Mem) (H : Heap) (locs : List Loc) (ls : Array Slot), w_X9_mayAt_134 a1 a2 Q x3 x4 x5 t0 M → wd G I ad M H → va_S (fA I ad) s.heap H locs → lv_has ls 9 [(0, .ref (ad (29, 0, 0, 0))), (3, .int x3), (4, .int x4), (5, .int x5)] → W p l e rm_X9_mayAt s m args below meth c H locs 0 0 (MQ below (qI G I ad Q) args s 0 0 (fA I ad)) (F0 m 134 ls [.int t0]) := by
  have hx := C.1
  have hb := C.2.1
  have hown := C.2.2.2.1
  have hts := C.2.2.2.2.1
  intro x3 x4 x5 t0 M H locs ls hw hP hS hl
  unfold w_X9_mayAt_134 at hw
  refine lv_istore (pc := 134) (lv' := [(6, .int t0), (0, .ref (ad (29, 0, 0, 0))), (3, .int x3), (4, .int x4), (5, .int x5)]) hx hb dX9_mayAt_134 hl (by decide) rfl (fun ls hl => ?_)
  refine lv_aload_n (pc := 136) hx hb dX9_mayAt_136 rfl (lv_at hl 1 rfl) ?_
  refine gf_729 (pc := 137) C hP h0 dX9_mayAt_137 ?_
  refine lv_iload (pc := 140) hx hb dX9_mayAt_140 (lv_at hl 3 rfl) ?_
  refine r_ialdK (pc := 142) (n := 60) (k := x4.toNatClampNeg) C hP (cl_29_13 hC h0) (fun _ _ _ _ => rfl) hw.1 rfl dX9_mayAt_142 ?_
  replace hw := hw.2
  refine lv_aload_n (pc := 143) hx hb dX9_mayAt_143 rfl (lv_at hl 1 rfl) ?_
  refine gf_729 (pc := 144) C hP h0 dX9_mayAt_144 ?_
  refine lv_iload (pc := 147) hx hb dX9_mayAt_147 (lv_at hl 4 rfl) ?_
  refine r_ialdK (pc := 149) (n := 60) (k := x5.toNatClampNeg) C hP (cl_29_13 hC h0) (fun _ _ _ _ => rfl) hw.1 rfl dX9_mayAt_149 ?_
  replace hw := hw.2
  refine lv_iand (pc := 150) hx hb dX9_mayAt_150 ?_
  refine lv_iconst (pc := 151) (v := (1 : Int32)) hx hb dX9_mayAt_151 (by decide) ?_
  refine lv_iand (pc := 152) hx hb dX9_mayAt_152 ?_
  refine lv_iconst (pc := 153) (v := (1 : Int32)) hx hb dX9_mayAt_153 (by decide) ?_
  refine lv_icmp_ne (pc := 154) (tgt := 329) hx hb dX9_mayAt_154 (by decide) (fun h => ?_) (fun h => ?_)
  · replace hw := if_f h hw
    refine lv_iload (pc := 329) hx hb dX9_mayAt_329 (lv_at hl 0 rfl) ?_
    exact r_iret (pc := 331) C hP hS hw dX9_mayAt_331
  · replace hw := if_t h hw
    refine lv_iload_n (pc := 157) hx hb dX9_mayAt_157 rfl (lv_at hl 2 rfl) ?_
    refine lv_bipush (pc := 158) (v := (10 : Int32)) hx hb dX9_mayAt_158 (by decide) ?_
    refine lv_icmp_ne (pc := 160) (tgt := 216) hx hb dX9_mayAt_160 (by decide) (fun h => ?_) (fun h => ?_)
    · replace hw := if_f h hw
      refine lv_aload_n (pc := 216) hx hb dX9_mayAt_216 rfl (lv_at hl 1 rfl) ?_
      refine gf_730 (pc := 217) C hP h0 dX9_mayAt_217 ?_
      refine lv_iload (pc := 220) hx hb dX9_mayAt_220 (lv_at hl 3 rfl) ?_
      refine r_ialdK (pc := 222) (n := 60) (k := x4.toNatClampNeg) C hP (cl_29_14 hC h0) (fun _ _ _ _ => rfl) hw.1 rfl dX9_mayAt_222 ?_
      replace hw := hw.2
      refine lv_aload_n (pc := 223) hx hb dX9_mayAt_223 rfl (lv_at hl 1 rfl) ?_
      refine gf_731 (pc := 224) C hP h0 dX9_mayAt_224 ?_
      refine lv_iload (pc := 227) hx hb dX9_mayAt_227 (lv_at hl 3 rfl) ?_
      refine r_ialdK (pc := 229) (n := 60) (k := x4.toNatClampNeg) C hP (cl_29_15 hC h0) (fun _ _ _ _ => rfl) hw.1 rfl dX9_mayAt_229 ?_
      replace hw := hw.2
      refine lv_icmp_ne (pc := 230) (tgt := 271) hx hb dX9_mayAt_230 (by decide) (fun h => ?_) (fun h => ?_)
      · replace hw := if_f h hw
        exact j_X9_mayAt_271 C hC h0 x4 x5 t0 M _ _ _ hw hP hS (lv_sub hl [1, 3, 4, 0] rfl)
      · replace hw := if_t h hw
        refine lv_aload_n (pc := 233) hx hb dX9_mayAt_233 rfl (lv_at hl 1 rfl) ?_
        refine gf_730 (pc := 234) C hP h0 dX9_mayAt_234 ?_
        refine lv_iload (pc := 237) hx hb dX9_mayAt_237 (lv_at hl 3 rfl) ?_
        refine r_ialdK (pc := 239) (n := 60) (k := x4.toNatClampNeg) C hP (cl_29_14 hC h0) (fun _ _ _ _ => rfl) hw.1 rfl dX9_mayAt_239 ?_
        replace hw := hw.2
        refine lv_aload_n (pc := 240) hx hb dX9_mayAt_240 rfl (lv_at hl 1 rfl) ?_
        refine gf_730 (pc := 241) C hP h0 dX9_mayAt_241 ?_
        refine lv_iload (pc := 244) hx hb dX9_mayAt_244 (lv_at hl 4 rfl) ?_
        refine r_ialdK (pc := 246) (n := 60) (k := x5.toNatClampNeg) C hP (cl_29_14 hC h0) (fun _ _ _ _ => rfl) hw.1 rfl dX9_mayAt_246 ?_
        replace hw := hw.2
        refine lv_icmp_ne (pc := 247) (tgt := 271) hx hb dX9_mayAt_247 (by decide) (fun h => ?_) (fun h => ?_)
        · replace hw := if_f h hw
          exact j_X9_mayAt_271 C hC h0 x4 x5 t0 M _ _ _ hw hP hS (lv_sub hl [1, 3, 4, 0] rfl)
        · replace hw := if_t h hw
          refine lv_aload_n (pc := 250) hx hb dX9_mayAt_250 rfl (lv_at hl 1 rfl) ?_
          refine gf_730 (pc := 251) C hP h0 dX9_mayAt_251 ?_
          refine lv_iload (pc := 254) hx hb dX9_mayAt_254 (lv_at hl 3 rfl) ?_
          refine r_ialdK (pc := 256) (n := 60) (k := x4.toNatClampNeg) C hP (cl_29_14 hC h0) (fun _ _ _ _ => rfl) hw.1 rfl dX9_mayAt_256 ?_
          replace hw := hw.2
          refine lv_aload_n (pc := 257) hx hb dX9_mayAt_257 rfl (lv_at hl 1 rfl) ?_
          refine gf_731 (pc := 258) C hP h0 dX9_mayAt_258 ?_
          refine lv_iload (pc := 261) hx hb dX9_mayAt_261 (lv_at hl 4 rfl) ?_
          refine r_ialdK (pc := 263) (n := 60) (k := x5.toNatClampNeg) C hP (cl_29_15 hC h0) (fun _ _ _ _ => rfl) hw.1 rfl dX9_mayAt_263 ?_
          replace hw := hw.2
          refine lv_icmp_ne (pc := 264) (tgt := 271) hx hb dX9_mayAt_264 (by decide) (fun h => ?_) (fun h => ?_)
          · replace hw := if_f h hw
            exact j_X9_mayAt_271 C hC h0 x4 x5 t0 M _ _ _ hw hP hS (lv_sub hl [1, 3, 4, 0] rfl)
          · replace hw := if_t h hw
            refine lv_iconst (pc := 267) (v := (1 : Int32)) hx hb dX9_mayAt_267 (by decide) ?_
            refine lv_goto (pc := 268) (tgt := 272) hx hb dX9_mayAt_268 (by decide) ?_
            exact j_X9_mayAt_272 C hC h0 x4 x5 t0 (1 : Int32) M _ _ _ hw hP hS (lv_sub hl [1, 3, 4, 0] rfl)
    · replace hw := if_t h hw
      refine lv_iload (pc := 163) hx hb dX9_mayAt_163 (lv_at hl 0 rfl) ?_
      refine lv_aload_n (pc := 165) hx hb dX9_mayAt_165 rfl (lv_at hl 1 rfl) ?_
      refine gf_730 (pc := 166) C hP h0 dX9_mayAt_166 ?_
      refine lv_iload (pc := 169) hx hb dX9_mayAt_169 (lv_at hl 3 rfl) ?_
      refine r_ialdK (pc := 171) (n := 60) (k := x4.toNatClampNeg) C hP (cl_29_14 hC h0) (fun _ _ _ _ => rfl) hw.1 rfl dX9_mayAt_171 ?_
      replace hw := hw.2
      refine lv_aload_n (pc := 172) hx hb dX9_mayAt_172 rfl (lv_at hl 1 rfl) ?_
      refine gf_731 (pc := 173) C hP h0 dX9_mayAt_173 ?_
      refine lv_iload (pc := 176) hx hb dX9_mayAt_176 (lv_at hl 4 rfl) ?_
      refine r_ialdK (pc := 178) (n := 60) (k := x5.toNatClampNeg) C hP (cl_29_15 hC h0) (fun _ _ _ _ => rfl) hw.1 rfl dX9_mayAt_178 ?_
      replace hw := hw.2
      refine lv_icmp_ge (pc := 179) (tgt := 186) hx hb dX9_mayAt_179 (by decide) (fun h => ?_) (fun h => ?_)
      · replace hw := if_t h hw
        refine lv_iconst (pc := 186) (v := (0 : Int32)) hx hb dX9_mayAt_186 (by decide) ?_
        refine lv_aload_n (pc := 187) hx hb dX9_mayAt_187 rfl (lv_at hl 1 rfl) ?_
        refine gf_731 (pc := 188) C hP h0 dX9_mayAt_188 ?_
        refine lv_iload (pc := 191) hx hb dX9_mayAt_191 (lv_at hl 3 rfl) ?_
        refine r_ialdK (pc := 193) (n := 60) (k := x4.toNatClampNeg) C hP (cl_29_15 hC h0) (fun _ _ _ _ => rfl) hw.1 rfl dX9_mayAt_193 ?_
        replace hw := hw.2
        refine lv_aload_n (pc := 194) hx hb dX9_mayAt_194 rfl (lv_at hl 1 rfl) ?_
        refine gf_730 (pc := 195) C hP h0 dX9_mayAt_195 ?_
        refine lv_iload (pc := 198) hx hb dX9_mayAt_198 (lv_at hl 4 rfl) ?_
        refine r_ialdK (pc := 200) (n := 60) (k := x5.toNatClampNeg) C hP (cl_29_14 hC h0) (fun _ _ _ _ => rfl) hw.1 rfl dX9_mayAt_200 ?_
        replace hw := hw.2
        refine lv_icmp_lt (pc := 201) (tgt := 208) hx hb dX9_mayAt_201 (by decide) (fun h => ?_) (fun h => ?_)
        · replace hw := if_t h hw
          refine lv_iconst (pc := 208) (v := (0 : Int32)) hx hb dX9_mayAt_208 (by decide) ?_
          refine lv_iadd (pc := 209) hx hb dX9_mayAt_209 ?_
          refine lv_iadd (pc := 210) hx hb dX9_mayAt_210 ?_
          refine lv_topi (fun x6_211 ex6_211 => ?_)
          replace hw := hw x6_211 ex6_211
          refine lv_istore (pc := 211) (lv' := [(6, .int x6_211), (0, .ref (ad (29, 0, 0, 0))), (3, .int x3), (4, .int x4), (5, .int x5)]) hx hb dX9_mayAt_211 hl (by decide) rfl (fun ls hl => ?_)
          refine lv_goto (pc := 213) (tgt := 329) hx hb dX9_mayAt_213 (by decide) ?_
          refine lv_iload (pc := 329) hx hb dX9_mayAt_329 (lv_at hl 0 rfl) ?_
          exact r_iret (pc := 331) C hP hS hw dX9_mayAt_331
        · replace hw := if_f h hw
          refine lv_iconst (pc := 204) (v := (2 : Int32)) hx hb dX9_mayAt_204 (by decide) ?_
          refine lv_goto (pc := 205) (tgt := 209) hx hb dX9_mayAt_205 (by decide) ?_
          refine lv_iadd (pc := 209) hx hb dX9_mayAt_209 ?_
          refine lv_iadd (pc := 210) hx hb dX9_mayAt_210 ?_
          refine lv_topi (fun x6_211 ex6_211 => ?_)
          replace hw := hw x6_211 ex6_211
          refine lv_istore (pc := 211) (lv' := [(6, .int x6_211), (0, .ref (ad (29, 0, 0, 0))), (3, .int x3), (4, .int x4), (5, .int x5)]) hx hb dX9_mayAt_211 hl (by decide) rfl (fun ls hl => ?_)
          refine lv_goto (pc := 213) (tgt := 329) hx hb dX9_mayAt_213 (by decide) ?_
          refine lv_iload (pc := 329) hx hb dX9_mayAt_329 (lv_at hl 0 rfl) ?_
          exact r_iret (pc := 331) C hP hS hw dX9_mayAt_331
      · replace hw := if_f h hw
        refine lv_iconst (pc := 182) (v := (1 : Int32)) hx hb dX9_mayAt_182 (by decide) ?_
        refine lv_goto (pc := 183) (tgt := 187) hx hb dX9_mayAt_183 (by decide) ?_
        refine lv_aload_n (pc := 187) hx hb dX9_mayAt_187 rfl (lv_at hl 1 rfl) ?_
        refine gf_731 (pc := 188) C hP h0 dX9_mayAt_188 ?_
        refine lv_iload (pc := 191) hx hb dX9_mayAt_191 (lv_at hl 3 rfl) ?_
        refine r_ialdK (pc := 193) (n := 60) (k := x4.toNatClampNeg) C hP (cl_29_15 hC h0) (fun _ _ _ _ => rfl) hw.1 rfl dX9_mayAt_193 ?_
        replace hw := hw.2
        refine lv_aload_n (pc := 194) hx hb dX9_mayAt_194 rfl (lv_at hl 1 rfl) ?_
        refine gf_730 (pc := 195) C hP h0 dX9_mayAt_195 ?_
        refine lv_iload (pc := 198) hx hb dX9_mayAt_198 (lv_at hl 4 rfl) ?_
        refine r_ialdK (pc := 200) (n := 60) (k := x5.toNatClampNeg) C hP (cl_29_14 hC h0) (fun _ _ _ _ => rfl) hw.1 rfl dX9_mayAt_200 ?_
        replace hw := hw.2
        refine lv_icmp_lt (pc := 201) (tgt := 208) hx hb dX9_mayAt_201 (by decide) (fun h => ?_) (fun h => ?_)
        · replace hw := if_t h hw
          refine lv_iconst (pc := 208) (v := (0 : Int32)) hx hb dX9_mayAt_208 (by decide) ?_
          refine lv_iadd (pc := 209) hx hb dX9_mayAt_209 ?_
          refine lv_iadd (pc := 210) hx hb dX9_mayAt_210 ?_
          refine lv_topi (fun x6_211 ex6_211 => ?_)
          replace hw := hw x6_211 ex6_211
          refine lv_istore (pc := 211) (lv' := [(6, .int x6_211), (0, .ref (ad (29, 0, 0, 0))), (3, .int x3), (4, .int x4), (5, .int x5)]) hx hb dX9_mayAt_211 hl (by decide) rfl (fun ls hl => ?_)
          refine lv_goto (pc := 213) (tgt := 329) hx hb dX9_mayAt_213 (by decide) ?_
          refine lv_iload (pc := 329) hx hb dX9_mayAt_329 (lv_at hl 0 rfl) ?_
          exact r_iret (pc := 331) C hP hS hw dX9_mayAt_331
        · replace hw := if_f h hw
          refine lv_iconst (pc := 204) (v := (2 : Int32)) hx hb dX9_mayAt_204 (by decide) ?_
          refine lv_goto (pc := 205) (tgt := 209) hx hb dX9_mayAt_205 (by decide) ?_
          refine lv_iadd (pc := 209) hx hb dX9_mayAt_209 ?_
          refine lv_iadd (pc := 210) hx hb dX9_mayAt_210 ?_
          refine lv_topi (fun x6_211 ex6_211 => ?_)
          replace hw := hw x6_211 ex6_211
          refine lv_istore (pc := 211) (lv' := [(6, .int x6_211), (0, .ref (ad (29, 0, 0, 0))), (3, .int x3), (4, .int x4), (5, .int x5)]) hx hb dX9_mayAt_211 hl (by decide) rfl (fun ls hl => ?_)
          refine lv_goto (pc := 213) (tgt := 329) hx hb dX9_mayAt_213 (by decide) ?_
          refine lv_iload (pc := 329) hx hb dX9_mayAt_329 (lv_at hl 0 rfl) ?_
          exact r_iret (pc := 331) C hP hS hw dX9_mayAt_331
set_option maxHeartbeats 4000000 in
set_option maxRecDepth 100000 in
theorem j_X9_mayAt_109 {a1 : Int32} {a2 : Int32} (C : cx p s m args meth c cX9_mayAt 9 (some .int) RX9 G) (hC : clo I) (h0 : I (29, 0, 0, 0)) {Q : Int32 → Mem → Prop} : ∀ (x3 : Int32) (x4 : Int32) (x5 : Int32) (M : Mem) (H : Heap) (locs : List Loc) (ls : Array Slot), w_X9_mayAt_109 a1 a2 Q x3 x4 x5 M → wd G I ad M H → va_S (fA I ad) s.heap H locs → lv_has ls 9 [(0, .ref (ad (29, 0, 0, 0))), (3, .int x3), (4, .int x4), (5, .int x5)] → W p l e rm_X9_mayAt s m args below meth c H locs 0 0 (MQ below (qI G I ad Q) args s 0 0 (fA I ad)) (F0 m 109 ls []) := by
  have hx := C.1
  have hb := C.2.1
  have hown := C.2.2.2.1
  have hts := C.2.2.2.2.1
  intro x3 x4 x5 M H locs ls hw hP hS hl
  unfold w_X9_mayAt_109 at hw
  refine lv_aload_n (pc := 109) hx hb dX9_mayAt_109 rfl (lv_at hl 0 rfl) ?_
  refine gf_729 (pc := 110) C hP h0 dX9_mayAt_110 ?_
  refine lv_iload (pc := 113) hx hb dX9_mayAt_113 (lv_at hl 2 rfl) ?_
  refine r_ialdK (pc := 115) (n := 60) (k := x4.toNatClampNeg) C hP (cl_29_13 hC h0) (fun _ _ _ _ => rfl) hw.1 rfl dX9_mayAt_115 ?_
  replace hw := hw.2
  refine lv_aload_n (pc := 116) hx hb dX9_mayAt_116 rfl (lv_at hl 0 rfl) ?_
  refine gf_729 (pc := 117) C hP h0 dX9_mayAt_117 ?_
  refine lv_iload (pc := 120) hx hb dX9_mayAt_120 (lv_at hl 3 rfl) ?_
  refine r_ialdK (pc := 122) (n := 60) (k := x5.toNatClampNeg) C hP (cl_29_13 hC h0) (fun _ _ _ _ => rfl) hw.1 rfl dX9_mayAt_122 ?_
  replace hw := hw.2
  refine lv_ior (pc := 123) hx hb dX9_mayAt_123 ?_
  refine lv_iconst (pc := 124) (v := (2 : Int32)) hx hb dX9_mayAt_124 (by decide) ?_
  refine lv_iand (pc := 125) hx hb dX9_mayAt_125 ?_
  refine lv_if_eq (pc := 126) (tgt := 133) hx hb dX9_mayAt_126 (by decide) (fun h => ?_) (fun h => ?_)
  · replace hw := if_t h hw
    refine lv_iconst (pc := 133) (v := (0 : Int32)) hx hb dX9_mayAt_133 (by decide) ?_
    exact j_X9_mayAt_134 C hC h0 x3 x4 x5 (0 : Int32) M _ _ _ hw hP hS (lv_sub hl [0, 1, 2, 3] rfl)
  · replace hw := if_f h hw
    refine lv_iconst (pc := 129) (v := (4 : Int32)) hx hb dX9_mayAt_129 (by decide) ?_
    refine lv_goto (pc := 130) (tgt := 134) hx hb dX9_mayAt_130 (by decide) ?_
    exact j_X9_mayAt_134 C hC h0 x3 x4 x5 (4 : Int32) M _ _ _ hw hP hS (lv_sub hl [0, 1, 2, 3] rfl)
set_option maxHeartbeats 4000000 in
set_option maxRecDepth 100000 in
theorem j_X9_mayAt_347 {a1 : Int32} {a2 : Int32} (C : cx p s m args meth c cX9_mayAt 9 (some .int) RX9 G) (hC : clo I) (h0 : I (29, 0, 0, 0)) {Q : Int32 → Mem → Prop} {B338 : Int32 → Int32 → Int32 → Int32 → Int32 → Mem → Prop} (hB338 : ∀ (x3 : Int32) (x4 : Int32) (x5 : Int32) (x6 : Int32) (x7 : Int32) (M : Mem) (H : Heap) (locs : List Loc) (ls : Array Slot), B338 x3 x4 x5 x6 x7 M → wd G I ad M H → va_S (fA I ad) s.heap H locs → lv_has ls 9 [(0, .ref (ad (29, 0, 0, 0))), (3, .int x3), (4, .int x4), (5, .int x5), (6, .int x6), (7, .int x7)] → W p l e rm_X9_mayAt s m args below meth c H locs 0 0 (MQ below (qI G I ad Q) args s 0 0 (fA I ad)) (F0 m 338 ls [])) : ∀ (n : Nat), ∀ (x3 : Int32) (x4 : Int32) (x5 : Int32) (x6 : Int32) (x7 : Int32) (x8 : Int32) (M : Mem) (H : Heap) (locs : List Loc) (ls : Array Slot), w_X9_mayAt_347 a1 a2 Q B338 n x3 x4 x5 x6 x7 x8 M → wd G I ad M H → va_S (fA I ad) s.heap H locs → lv_has ls 9 [(0, .ref (ad (29, 0, 0, 0))), (3, .int x3), (4, .int x4), (5, .int x5), (6, .int x6), (7, .int x7), (8, .int x8)] → W p l e rm_X9_mayAt s m args below meth c H locs 0 0 (MQ below (qI G I ad Q) args s 0 0 (fA I ad)) (F0 m 347 ls []) := by
  have hx := C.1
  have hb := C.2.1
  have hown := C.2.2.2.1
  have hts := C.2.2.2.2.1
  intro n
  induction n with
  | zero =>
    intro x3 x4 x5 x6 x7 x8 M H locs ls hw hP hS hl
    rw [w_X9_mayAt_347] at hw
    exact hw.elim
  | succ n ih =>
    intro x3 x4 x5 x6 x7 x8 M H locs ls hw hP hS hl
    rw [w_X9_mayAt_347] at hw
    refine lv_iload (pc := 347) hx hb dX9_mayAt_347 (lv_at hl 6 rfl) ?_
    refine lv_iconst (pc := 349) (v := (3 : Int32)) hx hb dX9_mayAt_349 (by decide) ?_
    refine lv_icmp_ge (pc := 350) (tgt := 436) hx hb dX9_mayAt_350 (by decide) (fun h => ?_) (fun h => ?_)
    · replace hw := if_t h hw
      refine lv_iinc (pc := 436) (v := x7 + 1) (lv' := [(7, .int (x7 + 1)), (0, .ref (ad (29, 0, 0, 0))), (3, .int x3), (4, .int x4), (5, .int x5), (6, .int x6), (8, .int x8)]) hx hb dX9_mayAt_436 hl (k := 5) rfl rfl (by decide) rfl (fun ls hl => ?_)
      refine lv_goto (pc := 439) (tgt := 338) hx hb dX9_mayAt_439 (by decide) ?_
      exact hB338 x3 x4 x5 x6 (x7 + 1) M _ _ _ hw hP hS (lv_sub hl [1, 2, 3, 4, 5, 0] rfl)
    · replace hw := if_f h hw
      refine lv_aload_n (pc := 353) hx hb dX9_mayAt_353 rfl (lv_at hl 0 rfl) ?_
      refine gf_729 (pc := 354) C hP h0 dX9_mayAt_354 ?_
      refine lv_iload (pc := 357) hx hb dX9_mayAt_357 (lv_at hl 2 rfl) ?_
      refine r_ialdK (pc := 359) (n := 60) (k := x4.toNatClampNeg) C hP (cl_29_13 hC h0) (fun _ _ _ _ => rfl) hw.1 rfl dX9_mayAt_359 ?_
      replace hw := hw.2
      refine lv_iload (pc := 360) hx hb dX9_mayAt_360 (lv_at hl 5 rfl) ?_
      refine r_cSI (pc := 362) (rest := [.int (M.1 (42, 0, 0, 0) x4.toNatClampNeg)]) (As := [.int x7]) C hl.1 hP hS (k_X9_bit l G hC  hw) mw_921 mw_922 mw_65 mw_923 ⟨rfl, rfl⟩ hd_X9_bit rfl rfl ⟨Nat.le_of_ble_eq_true rfl, Nat.le_of_ble_eq_true rfl⟩ (Nat.le_of_ble_eq_true rfl) ⟨Nat.zero_le _, Nat.zero_le _⟩ dX9_mayAt_362 (fun r362 M362 H locs hw hP hS => ?_)
      refine lv_iand (pc := 365) hx hb dX9_mayAt_365 ?_
      refine lv_if_eq (pc := 366) (tgt := 430) hx hb dX9_mayAt_366 (by decide) (fun h => ?_) (fun h => ?_)
      · replace hw := if_t h hw
        refine lv_iinc (pc := 430) (v := x8 + 1) (lv' := [(8, .int (x8 + 1)), (0, .ref (ad (29, 0, 0, 0))), (3, .int x3), (4, .int x4), (5, .int x5), (6, .int x6), (7, .int x7)]) hx hb dX9_mayAt_430 hl (k := 6) rfl rfl (by decide) rfl (fun ls hl => ?_)
        refine lv_goto (pc := 433) (tgt := 347) hx hb dX9_mayAt_433 (by decide) ?_
        exact ih x3 x4 x5 x6 x7 (x8 + 1) M362 _ _ _ hw hP hS (lv_sub hl [1, 2, 3, 4, 5, 6, 0] rfl)
      · replace hw := if_f h hw
        refine lv_aload_n (pc := 369) hx hb dX9_mayAt_369 rfl (lv_at hl 0 rfl) ?_
        refine gf_729 (pc := 370) C hP h0 dX9_mayAt_370 ?_
        refine lv_iload (pc := 373) hx hb dX9_mayAt_373 (lv_at hl 3 rfl) ?_
        refine r_ialdK (pc := 375) (n := 60) (k := x5.toNatClampNeg) C hP (cl_29_13 hC h0) (fun _ _ _ _ => rfl) hw.1 rfl dX9_mayAt_375 ?_
        replace hw := hw.2
        refine lv_iload (pc := 376) hx hb dX9_mayAt_376 (lv_at hl 6 rfl) ?_
        refine r_cSI (pc := 378) (rest := [.int (M362.1 (42, 0, 0, 0) x5.toNatClampNeg)]) (As := [.int x8]) C hl.1 hP hS (k_X9_bit l G hC  hw) mw_921 mw_922 mw_65 mw_923 ⟨rfl, rfl⟩ hd_X9_bit rfl rfl ⟨Nat.le_of_ble_eq_true rfl, Nat.le_of_ble_eq_true rfl⟩ (Nat.le_of_ble_eq_true rfl) ⟨Nat.zero_le _, Nat.zero_le _⟩ dX9_mayAt_378 (fun r378 M378 H locs hw hP hS => ?_)
        refine lv_iand (pc := 381) hx hb dX9_mayAt_381 ?_
        refine lv_if_eq (pc := 382) (tgt := 430) hx hb dX9_mayAt_382 (by decide) (fun h => ?_) (fun h => ?_)
        · replace hw := if_t h hw
          refine lv_iinc (pc := 430) (v := x8 + 1) (lv' := [(8, .int (x8 + 1)), (0, .ref (ad (29, 0, 0, 0))), (3, .int x3), (4, .int x4), (5, .int x5), (6, .int x6), (7, .int x7)]) hx hb dX9_mayAt_430 hl (k := 6) rfl rfl (by decide) rfl (fun ls hl => ?_)
          refine lv_goto (pc := 433) (tgt := 347) hx hb dX9_mayAt_433 (by decide) ?_
          exact ih x3 x4 x5 x6 x7 (x8 + 1) M378 _ _ _ hw hP hS (lv_sub hl [1, 2, 3, 4, 5, 6, 0] rfl)
        · replace hw := if_f h hw
          refine lv_iload (pc := 385) hx hb dX9_mayAt_385 (lv_at hl 4 rfl) ?_
          refine lv_iload_n (pc := 387) hx hb dX9_mayAt_387 rfl (lv_at hl 1 rfl) ?_
          refine lv_bipush (pc := 388) (v := (14 : Int32)) hx hb dX9_mayAt_388 (by decide) ?_
          refine lv_icmp_ne (pc := 390) (tgt := 401) hx hb dX9_mayAt_390 (by decide) (fun h => ?_) (fun h => ?_)
          · replace hw := if_f h hw
            refine lv_iload_n (pc := 401) hx hb dX9_mayAt_401 rfl (lv_at hl 1 rfl) ?_
            refine lv_bipush (pc := 402) (v := (12 : Int32)) hx hb dX9_mayAt_402 (by decide) ?_
            refine lv_icmp_ne (pc := 404) (tgt := 417) hx hb dX9_mayAt_404 (by decide) (fun h => ?_) (fun h => ?_)
            · replace hw := if_f h hw
              refine lv_iload (pc := 417) hx hb dX9_mayAt_417 (lv_at hl 5 rfl) ?_
              refine lv_iload (pc := 419) hx hb dX9_mayAt_419 (lv_at hl 6 rfl) ?_
              refine r_cSI (pc := 421) (rest := [.int x6]) (As := [.int x7, .int x8]) C hl.1 hP hS (k_X9_either l G hC  hw) mw_897 mw_898 mw_65 mw_899 ⟨rfl, rfl⟩ hd_X9_either rfl rfl ⟨Nat.le_of_ble_eq_true rfl, Nat.le_of_ble_eq_true rfl⟩ (Nat.le_of_ble_eq_true rfl) ⟨Nat.zero_le _, Nat.zero_le _⟩ dX9_mayAt_421 (fun r421 M421 H locs hw hP hS => ?_)
              refine r_cSI (pc := 424) (rest := [.int x6]) (As := [.int r421]) C hl.1 hP hS (k_X9_bit l G hC  hw) mw_921 mw_922 mw_65 mw_923 ⟨rfl, rfl⟩ hd_X9_bit rfl rfl ⟨Nat.le_of_ble_eq_true rfl, Nat.le_of_ble_eq_true rfl⟩ (Nat.le_of_ble_eq_true rfl) ⟨Nat.zero_le _, Nat.zero_le _⟩ dX9_mayAt_424 (fun r424 M424 H locs hw hP hS => ?_)
              refine lv_ior (pc := 427) hx hb dX9_mayAt_427 ?_
              refine lv_topi (fun x6_428 ex6_428 => ?_)
              replace hw := hw x6_428 ex6_428
              refine lv_istore (pc := 428) (lv' := [(6, .int x6_428), (0, .ref (ad (29, 0, 0, 0))), (3, .int x3), (4, .int x4), (5, .int x5), (7, .int x7), (8, .int x8)]) hx hb dX9_mayAt_428 hl (by decide) rfl (fun ls hl => ?_)
              refine lv_iinc (pc := 430) (v := x8 + 1) (lv' := [(8, .int (x8 + 1)), (6, .int x6_428), (0, .ref (ad (29, 0, 0, 0))), (3, .int x3), (4, .int x4), (5, .int x5), (7, .int x7)]) hx hb dX9_mayAt_430 hl (k := 6) rfl rfl (by decide) rfl (fun ls hl => ?_)
              refine lv_goto (pc := 433) (tgt := 347) hx hb dX9_mayAt_433 (by decide) ?_
              exact ih x3 x4 x5 x6_428 x7 (x8 + 1) M424 _ _ _ hw hP hS (lv_sub hl [2, 3, 4, 5, 1, 6, 0] rfl)
            · replace hw := if_t h hw
              refine lv_iload (pc := 407) hx hb dX9_mayAt_407 (lv_at hl 5 rfl) ?_
              refine lv_iload (pc := 409) hx hb dX9_mayAt_409 (lv_at hl 6 rfl) ?_
              refine r_cSI (pc := 411) (rest := [.int x6]) (As := [.int x7, .int x8]) C hl.1 hP hS (k_X9_both l G hC  hw) mw_894 mw_895 mw_65 mw_896 ⟨rfl, rfl⟩ hd_X9_both rfl rfl ⟨Nat.le_of_ble_eq_true rfl, Nat.le_of_ble_eq_true rfl⟩ (Nat.le_of_ble_eq_true rfl) ⟨Nat.zero_le _, Nat.zero_le _⟩ dX9_mayAt_411 (fun r411 M411 H locs hw hP hS => ?_)
              refine lv_goto (pc := 414) (tgt := 424) hx hb dX9_mayAt_414 (by decide) ?_
              refine r_cSI (pc := 424) (rest := [.int x6]) (As := [.int r411]) C hl.1 hP hS (k_X9_bit l G hC  hw) mw_921 mw_922 mw_65 mw_923 ⟨rfl, rfl⟩ hd_X9_bit rfl rfl ⟨Nat.le_of_ble_eq_true rfl, Nat.le_of_ble_eq_true rfl⟩ (Nat.le_of_ble_eq_true rfl) ⟨Nat.zero_le _, Nat.zero_le _⟩ dX9_mayAt_424 (fun r424 M424 H locs hw hP hS => ?_)
              refine lv_ior (pc := 427) hx hb dX9_mayAt_427 ?_
              refine lv_topi (fun x6_428 ex6_428 => ?_)
              replace hw := hw x6_428 ex6_428
              refine lv_istore (pc := 428) (lv' := [(6, .int x6_428), (0, .ref (ad (29, 0, 0, 0))), (3, .int x3), (4, .int x4), (5, .int x5), (7, .int x7), (8, .int x8)]) hx hb dX9_mayAt_428 hl (by decide) rfl (fun ls hl => ?_)
              refine lv_iinc (pc := 430) (v := x8 + 1) (lv' := [(8, .int (x8 + 1)), (6, .int x6_428), (0, .ref (ad (29, 0, 0, 0))), (3, .int x3), (4, .int x4), (5, .int x5), (7, .int x7)]) hx hb dX9_mayAt_430 hl (k := 6) rfl rfl (by decide) rfl (fun ls hl => ?_)
              refine lv_goto (pc := 433) (tgt := 347) hx hb dX9_mayAt_433 (by decide) ?_
              exact ih x3 x4 x5 x6_428 x7 (x8 + 1) M424 _ _ _ hw hP hS (lv_sub hl [2, 3, 4, 5, 1, 6, 0] rfl)
          · replace hw := if_t h hw
            refine lv_iload (pc := 393) hx hb dX9_mayAt_393 (lv_at hl 5 rfl) ?_
            refine r_cSI (pc := 395) (rest := [.int x6]) (As := [.int x7]) C hl.1 hP hS (k_X9_not l G hC  hw) mw_900 mw_901 mw_65 mw_902 ⟨rfl, rfl⟩ hd_X9_not rfl rfl ⟨Nat.le_of_ble_eq_true rfl, Nat.le_of_ble_eq_true rfl⟩ (Nat.le_of_ble_eq_true rfl) ⟨Nat.zero_le _, Nat.zero_le _⟩ dX9_mayAt_395 (fun r395 M395 H locs hw hP hS => ?_)
            refine lv_goto (pc := 398) (tgt := 424) hx hb dX9_mayAt_398 (by decide) ?_
            refine r_cSI (pc := 424) (rest := [.int x6]) (As := [.int r395]) C hl.1 hP hS (k_X9_bit l G hC  hw) mw_921 mw_922 mw_65 mw_923 ⟨rfl, rfl⟩ hd_X9_bit rfl rfl ⟨Nat.le_of_ble_eq_true rfl, Nat.le_of_ble_eq_true rfl⟩ (Nat.le_of_ble_eq_true rfl) ⟨Nat.zero_le _, Nat.zero_le _⟩ dX9_mayAt_424 (fun r424 M424 H locs hw hP hS => ?_)
            refine lv_ior (pc := 427) hx hb dX9_mayAt_427 ?_
            refine lv_topi (fun x6_428 ex6_428 => ?_)
            replace hw := hw x6_428 ex6_428
            refine lv_istore (pc := 428) (lv' := [(6, .int x6_428), (0, .ref (ad (29, 0, 0, 0))), (3, .int x3), (4, .int x4), (5, .int x5), (7, .int x7), (8, .int x8)]) hx hb dX9_mayAt_428 hl (by decide) rfl (fun ls hl => ?_)
            refine lv_iinc (pc := 430) (v := x8 + 1) (lv' := [(8, .int (x8 + 1)), (6, .int x6_428), (0, .ref (ad (29, 0, 0, 0))), (3, .int x3), (4, .int x4), (5, .int x5), (7, .int x7)]) hx hb dX9_mayAt_430 hl (k := 6) rfl rfl (by decide) rfl (fun ls hl => ?_)
            refine lv_goto (pc := 433) (tgt := 347) hx hb dX9_mayAt_433 (by decide) ?_
            exact ih x3 x4 x5 x6_428 x7 (x8 + 1) M424 _ _ _ hw hP hS (lv_sub hl [2, 3, 4, 5, 1, 6, 0] rfl)
set_option maxHeartbeats 4000000 in
set_option maxRecDepth 100000 in
theorem j_X9_mayAt_338 {a1 : Int32} {a2 : Int32} (C : cx p s m args meth c cX9_mayAt 9 (some .int) RX9 G) (hC : clo I) (h0 : I (29, 0, 0, 0)) {Q : Int32 → Mem → Prop} : ∀ (n : Nat), ∀ (x3 : Int32) (x4 : Int32) (x5 : Int32) (x6 : Int32) (x7 : Int32) (M : Mem) (H : Heap) (locs : List Loc) (ls : Array Slot), w_X9_mayAt_338 a1 a2 Q n x3 x4 x5 x6 x7 M → wd G I ad M H → va_S (fA I ad) s.heap H locs → lv_has ls 9 [(0, .ref (ad (29, 0, 0, 0))), (3, .int x3), (4, .int x4), (5, .int x5), (6, .int x6), (7, .int x7)] → W p l e rm_X9_mayAt s m args below meth c H locs 0 0 (MQ below (qI G I ad Q) args s 0 0 (fA I ad)) (F0 m 338 ls []) := by
  have hx := C.1
  have hb := C.2.1
  have hown := C.2.2.2.1
  have hts := C.2.2.2.2.1
  intro n
  induction n with
  | zero =>
    intro x3 x4 x5 x6 x7 M H locs ls hw hP hS hl
    rw [w_X9_mayAt_338] at hw
    exact hw.elim
  | succ n ih =>
    intro x3 x4 x5 x6 x7 M H locs ls hw hP hS hl
    rw [w_X9_mayAt_338] at hw
    refine lv_iload (pc := 338) hx hb dX9_mayAt_338 (lv_at hl 5 rfl) ?_
    refine lv_iconst (pc := 340) (v := (3 : Int32)) hx hb dX9_mayAt_340 (by decide) ?_
    refine lv_icmp_ge (pc := 341) (tgt := 442) hx hb dX9_mayAt_341 (by decide) (fun h => ?_) (fun h => ?_)
    · replace hw := if_t h hw
      refine lv_iload (pc := 442) hx hb dX9_mayAt_442 (lv_at hl 4 rfl) ?_
      exact r_iret (pc := 444) C hP hS hw dX9_mayAt_444
    · replace hw := if_f h hw
      refine lv_iconst (pc := 344) (v := (0 : Int32)) hx hb dX9_mayAt_344 (by decide) ?_
      refine lv_istore (pc := 345) (lv' := [(8, .int (0 : Int32)), (0, .ref (ad (29, 0, 0, 0))), (3, .int x3), (4, .int x4), (5, .int x5), (6, .int x6), (7, .int x7)]) hx hb dX9_mayAt_345 hl (by decide) rfl (fun ls hl => ?_)
      obtain ⟨n0, hw⟩ := hw
      exact j_X9_mayAt_347 C hC h0 ih n0 x3 x4 x5 x6 x7 (0 : Int32) M _ _ _ hw hP hS (lv_sub hl [1, 2, 3, 4, 5, 6, 0] rfl)
set_option maxHeartbeats 4000000 in
set_option maxRecDepth 100000 in
theorem j_X9_mayAt_0 {a1 : Int32} {a2 : Int32} (C : cx p s m args meth c cX9_mayAt 9 (some .int) RX9 G) (hC : clo I) (h0 : I (29, 0, 0, 0)) {Q : Int32 → Mem → Prop} : ∀ (M : Mem) (H : Heap) (locs : List Loc) (ls : Array Slot), w_X9_mayAt a1 a2 Q M → wd G I ad M H → va_S (fA I ad) s.heap H locs → lv_has ls 9 [(0, .ref (ad (29, 0, 0, 0))), (1, .int a1), (2, .int a2)] → W p l e rm_X9_mayAt s m args below meth c H locs 0 0 (MQ below (qI G I ad Q) args s 0 0 (fA I ad)) (F0 m 0 ls []) := by
  have hx := C.1
  have hb := C.2.1
  have hown := C.2.2.2.1
  have hts := C.2.2.2.2.1
  intro M H locs ls hw hP hS hl
  unfold w_X9_mayAt at hw
  refine lv_aload_n (pc := 0) hx hb dX9_mayAt_0 rfl (lv_at hl 0 rfl) ?_
  refine gf_722 (pc := 1) C hP h0 dX9_mayAt_1 ?_
  refine lv_iload_n (pc := 4) hx hb dX9_mayAt_4 rfl (lv_at hl 2 rfl) ?_
  refine r_ialdK (pc := 5) (n := 60) (k := a2.toNatClampNeg) C hP (cl_29_6 hC h0) (fun _ _ _ _ => rfl) hw.1 rfl dX9_mayAt_5 ?_
  replace hw := hw.2
  refine lv_topi (fun x3_6 ex3_6 => ?_)
  replace hw := hw x3_6 ex3_6
  refine lv_istore_n (pc := 6) (lv' := [(3, .int x3_6), (0, .ref (ad (29, 0, 0, 0))), (1, .int a1), (2, .int a2)]) hx hb dX9_mayAt_6 rfl hl (by decide) rfl (fun ls hl => ?_)
  refine lv_iload_n (pc := 7) hx hb dX9_mayAt_7 rfl (lv_at hl 0 rfl) ?_
  refine lv_bipush (pc := 8) (v := (15 : Int32)) hx hb dX9_mayAt_8 (by decide) ?_
  refine lv_icmp_ne (pc := 10) (tgt := 68) hx hb dX9_mayAt_10 (by decide) (fun h => ?_) (fun h => ?_)
  · replace hw := if_f h hw
    refine lv_aload_n (pc := 68) hx hb dX9_mayAt_68 rfl (lv_at hl 1 rfl) ?_
    refine gf_723 (pc := 69) C hP h0 dX9_mayAt_69 ?_
    refine lv_iload_n (pc := 72) hx hb dX9_mayAt_72 rfl (lv_at hl 3 rfl) ?_
    refine r_ialdK (pc := 73) (n := 60) (k := a2.toNatClampNeg) C hP (cl_29_7 hC h0) (fun _ _ _ _ => rfl) hw.1 rfl dX9_mayAt_73 ?_
    replace hw := hw.2
    refine lv_topi (fun x4_74 ex4_74 => ?_)
    replace hw := hw x4_74 ex4_74
    refine lv_istore (pc := 74) (lv' := [(4, .int x4_74), (3, .int x3_6), (0, .ref (ad (29, 0, 0, 0))), (1, .int a1), (2, .int a2)]) hx hb dX9_mayAt_74 hl (by decide) rfl (fun ls hl => ?_)
    refine lv_iload_n (pc := 76) hx hb dX9_mayAt_76 rfl (lv_at hl 1 rfl) ?_
    refine r_cSI (pc := 77) (rest := []) (As := [.int x3_6]) C hl.1 hP hS (k_X9_inner l G hC  hw) mw_853 mw_854 mw_65 mw_855 ⟨rfl, rfl⟩ hd_X9_inner rfl rfl ⟨Nat.le_of_ble_eq_true rfl, Nat.le_of_ble_eq_true rfl⟩ (Nat.le_of_ble_eq_true rfl) ⟨Nat.zero_le _, Nat.zero_le _⟩ dX9_mayAt_77 (fun r77 M77 H locs hw hP hS => ?_)
    refine lv_iconst (pc := 80) (v := (1 : Int32)) hx hb dX9_mayAt_80 (by decide) ?_
    refine lv_icmp_le (pc := 81) (tgt := 93) hx hb dX9_mayAt_81 (by decide) (fun h => ?_) (fun h => ?_)
    · replace hw := if_t h hw
      refine lv_iload (pc := 93) hx hb dX9_mayAt_93 (lv_at hl 0 rfl) ?_
      refine lv_istore (pc := 95) (lv' := [(5, .int x4_74), (4, .int x4_74), (3, .int x3_6), (0, .ref (ad (29, 0, 0, 0))), (1, .int a1), (2, .int a2)]) hx hb dX9_mayAt_95 hl (by decide) rfl (fun ls hl => ?_)
      refine lv_iload_n (pc := 97) hx hb dX9_mayAt_97 rfl (lv_at hl 2 rfl) ?_
      refine lv_bipush (pc := 98) (v := (10 : Int32)) hx hb dX9_mayAt_98 (by decide) ?_
      refine lv_icmp_eq (pc := 100) (tgt := 109) hx hb dX9_mayAt_100 (by decide) (fun h => ?_) (fun h => ?_)
      · replace hw := if_t h hw
        exact j_X9_mayAt_109 C hC h0 x3_6 x4_74 x4_74 M77 _ _ _ hw hP hS (lv_sub hl [3, 2, 1, 0] rfl)
      · replace hw := if_f h hw
        refine lv_iload_n (pc := 103) hx hb dX9_mayAt_103 rfl (lv_at hl 2 rfl) ?_
        refine lv_bipush (pc := 104) (v := (11 : Int32)) hx hb dX9_mayAt_104 (by decide) ?_
        refine lv_icmp_ne (pc := 106) (tgt := 332) hx hb dX9_mayAt_106 (by decide) (fun h => ?_) (fun h => ?_)
        · replace hw := if_f h hw
          refine lv_iconst (pc := 332) (v := (0 : Int32)) hx hb dX9_mayAt_332 (by decide) ?_
          refine lv_istore (pc := 333) (lv' := [(6, .int (0 : Int32)), (5, .int x4_74), (4, .int x4_74), (3, .int x3_6), (0, .ref (ad (29, 0, 0, 0))), (1, .int a1), (2, .int a2)]) hx hb dX9_mayAt_333 hl (by decide) rfl (fun ls hl => ?_)
          refine lv_iconst (pc := 335) (v := (0 : Int32)) hx hb dX9_mayAt_335 (by decide) ?_
          refine lv_istore (pc := 336) (lv' := [(7, .int (0 : Int32)), (6, .int (0 : Int32)), (5, .int x4_74), (4, .int x4_74), (3, .int x3_6), (0, .ref (ad (29, 0, 0, 0))), (1, .int a1), (2, .int a2)]) hx hb dX9_mayAt_336 hl (by decide) rfl (fun ls hl => ?_)
          obtain ⟨n0, hw⟩ := hw
          exact j_X9_mayAt_338 C hC h0 n0 x3_6 x4_74 x4_74 (0 : Int32) (0 : Int32) M77 _ _ _ hw hP hS (lv_sub hl [5, 4, 3, 2, 1, 0] rfl)
        · replace hw := if_t h hw
          exact j_X9_mayAt_109 C hC h0 x3_6 x4_74 x4_74 M77 _ _ _ hw hP hS (lv_sub hl [3, 2, 1, 0] rfl)
    · replace hw := if_f h hw
      refine lv_aload_n (pc := 84) hx hb dX9_mayAt_84 rfl (lv_at hl 2 rfl) ?_
      refine gf_724 (pc := 85) C hP h0 dX9_mayAt_85 ?_
      refine lv_iload_n (pc := 88) hx hb dX9_mayAt_88 rfl (lv_at hl 4 rfl) ?_
      refine r_ialdK (pc := 89) (n := 60) (k := a2.toNatClampNeg) C hP (cl_29_8 hC h0) (fun _ _ _ _ => rfl) hw.1 rfl dX9_mayAt_89 ?_
      replace hw := hw.2
      refine lv_goto (pc := 90) (tgt := 95) hx hb dX9_mayAt_90 (by decide) ?_
      refine lv_topi (fun x5_95 ex5_95 => ?_)
      replace hw := hw x5_95 ex5_95
      refine lv_istore (pc := 95) (lv' := [(5, .int x5_95), (4, .int x4_74), (3, .int x3_6), (0, .ref (ad (29, 0, 0, 0))), (1, .int a1), (2, .int a2)]) hx hb dX9_mayAt_95 hl (by decide) rfl (fun ls hl => ?_)
      refine lv_iload_n (pc := 97) hx hb dX9_mayAt_97 rfl (lv_at hl 2 rfl) ?_
      refine lv_bipush (pc := 98) (v := (10 : Int32)) hx hb dX9_mayAt_98 (by decide) ?_
      refine lv_icmp_eq (pc := 100) (tgt := 109) hx hb dX9_mayAt_100 (by decide) (fun h => ?_) (fun h => ?_)
      · replace hw := if_t h hw
        exact j_X9_mayAt_109 C hC h0 x3_6 x4_74 x5_95 M77 _ _ _ hw hP hS (lv_sub hl [3, 2, 1, 0] rfl)
      · replace hw := if_f h hw
        refine lv_iload_n (pc := 103) hx hb dX9_mayAt_103 rfl (lv_at hl 2 rfl) ?_
        refine lv_bipush (pc := 104) (v := (11 : Int32)) hx hb dX9_mayAt_104 (by decide) ?_
        refine lv_icmp_ne (pc := 106) (tgt := 332) hx hb dX9_mayAt_106 (by decide) (fun h => ?_) (fun h => ?_)
        · replace hw := if_f h hw
          refine lv_iconst (pc := 332) (v := (0 : Int32)) hx hb dX9_mayAt_332 (by decide) ?_
          refine lv_istore (pc := 333) (lv' := [(6, .int (0 : Int32)), (5, .int x5_95), (4, .int x4_74), (3, .int x3_6), (0, .ref (ad (29, 0, 0, 0))), (1, .int a1), (2, .int a2)]) hx hb dX9_mayAt_333 hl (by decide) rfl (fun ls hl => ?_)
          refine lv_iconst (pc := 335) (v := (0 : Int32)) hx hb dX9_mayAt_335 (by decide) ?_
          refine lv_istore (pc := 336) (lv' := [(7, .int (0 : Int32)), (6, .int (0 : Int32)), (5, .int x5_95), (4, .int x4_74), (3, .int x3_6), (0, .ref (ad (29, 0, 0, 0))), (1, .int a1), (2, .int a2)]) hx hb dX9_mayAt_336 hl (by decide) rfl (fun ls hl => ?_)
          obtain ⟨n0, hw⟩ := hw
          exact j_X9_mayAt_338 C hC h0 n0 x3_6 x4_74 x5_95 (0 : Int32) (0 : Int32) M77 _ _ _ hw hP hS (lv_sub hl [5, 4, 3, 2, 1, 0] rfl)
        · replace hw := if_t h hw
          exact j_X9_mayAt_109 C hC h0 x3_6 x4_74 x5_95 M77 _ _ _ hw hP hS (lv_sub hl [3, 2, 1, 0] rfl)
  · replace hw := if_t h hw
    refine lv_aload_n (pc := 13) hx hb dX9_mayAt_13 rfl (lv_at hl 1 rfl) ?_
    refine gf_718 (pc := 14) C hP h0 dX9_mayAt_14 ?_
    refine lv_bipush (pc := 17) (v := (12 : Int32)) hx hb dX9_mayAt_17 (by decide) ?_
    refine lv_iconst (pc := 19) (v := (4 : Int32)) hx hb dX9_mayAt_19 (by decide) ?_
    refine lv_iload_n (pc := 20) hx hb dX9_mayAt_20 rfl (lv_at hl 2 rfl) ?_
    refine lv_imul (pc := 21) hx hb dX9_mayAt_21 ?_
    refine lv_aload_n (pc := 22) hx hb dX9_mayAt_22 rfl (lv_at hl 1 rfl) ?_
    refine gf_721 (pc := 23) C hP h0 dX9_mayAt_23 ?_
    refine lv_iload_n (pc := 26) hx hb dX9_mayAt_26 rfl (lv_at hl 3 rfl) ?_
    refine lv_iconst (pc := 27) (v := (1 : Int32)) hx hb dX9_mayAt_27 (by decide) ?_
    refine lv_iadd (pc := 28) hx hb dX9_mayAt_28 ?_
    refine r_ialdK (pc := 29) (n := 60) (k := (a2 + (1 : Int32)).toNatClampNeg) C hP (cl_29_5 hC h0) (fun _ _ _ _ => rfl) hw.1 rfl dX9_mayAt_29 ?_
    replace hw := hw.2
    refine lv_iadd (pc := 30) hx hb dX9_mayAt_30 ?_
    refine lv_bipush (pc := 31) (v := (97 : Int32)) hx hb dX9_mayAt_31 (by decide) ?_
    refine lv_isub (pc := 33) hx hb dX9_mayAt_33 ?_
    refine lv_imul (pc := 34) hx hb dX9_mayAt_34 ?_
    refine lv_iconst (pc := 35) (v := (2 : Int32)) hx hb dX9_mayAt_35 (by decide) ?_
    refine lv_iadd (pc := 36) hx hb dX9_mayAt_36 ?_
    refine r_ialdK (pc := 37) (n := 288) (k := (((12 : Int32) * ((((4 : Int32) * a1) + (M.1 (34, 0, 0, 0) ((a2 + (1 : Int32)).toNatClampNeg))) - (97 : Int32))) + (2 : Int32)).toNatClampNeg) C hP (cl_29_2 hC h0) (fun _ _ _ _ => rfl) hw.1 rfl dX9_mayAt_37 ?_
    replace hw := hw.2
    refine lv_topi (fun x4_38 ex4_38 => ?_)
    replace hw := hw x4_38 ex4_38
    refine lv_istore (pc := 38) (lv' := [(4, .int x4_38), (3, .int x3_6), (0, .ref (ad (29, 0, 0, 0))), (1, .int a1), (2, .int a2)]) hx hb dX9_mayAt_38 hl (by decide) rfl (fun ls hl => ?_)
    refine lv_iload (pc := 40) hx hb dX9_mayAt_40 (lv_at hl 0 rfl) ?_
    refine lv_if_le (pc := 42) (tgt := 49) hx hb dX9_mayAt_42 (by decide) (fun h => ?_) (fun h => ?_)
    · replace hw := if_t h hw
      refine lv_iconst (pc := 49) (v := (0 : Int32)) hx hb dX9_mayAt_49 (by decide) ?_
      refine lv_iload (pc := 50) hx hb dX9_mayAt_50 (lv_at hl 0 rfl) ?_
      refine lv_aload_n (pc := 52) hx hb dX9_mayAt_52 rfl (lv_at hl 2 rfl) ?_
      refine gf_717 (pc := 53) C hP h0 dX9_mayAt_53 ?_
      refine lv_iload_n (pc := 56) hx hb dX9_mayAt_56 rfl (lv_at hl 3 rfl) ?_
      refine r_ialdK (pc := 57) (n := 6) (k := a1.toNatClampNeg) C hP (cl_29_1 hC h0) (fun _ _ _ _ => rfl) hw.1 rfl dX9_mayAt_57 ?_
      replace hw := hw.2
      refine lv_icmp_ge (pc := 58) (tgt := 65) hx hb dX9_mayAt_58 (by decide) (fun h => ?_) (fun h => ?_)
      · replace hw := if_t h hw
        refine lv_iconst (pc := 65) (v := (0 : Int32)) hx hb dX9_mayAt_65 (by decide) ?_
        refine lv_iadd (pc := 66) hx hb dX9_mayAt_66 ?_
        exact r_iret (pc := 67) C hP hS hw dX9_mayAt_67
      · replace hw := if_f h hw
        refine lv_iconst (pc := 61) (v := (2 : Int32)) hx hb dX9_mayAt_61 (by decide) ?_
        refine lv_goto (pc := 62) (tgt := 66) hx hb dX9_mayAt_62 (by decide) ?_
        refine lv_iadd (pc := 66) hx hb dX9_mayAt_66 ?_
        exact r_iret (pc := 67) C hP hS hw dX9_mayAt_67
    · replace hw := if_f h hw
      refine lv_iconst (pc := 45) (v := (1 : Int32)) hx hb dX9_mayAt_45 (by decide) ?_
      refine lv_goto (pc := 46) (tgt := 50) hx hb dX9_mayAt_46 (by decide) ?_
      refine lv_iload (pc := 50) hx hb dX9_mayAt_50 (lv_at hl 0 rfl) ?_
      refine lv_aload_n (pc := 52) hx hb dX9_mayAt_52 rfl (lv_at hl 2 rfl) ?_
      refine gf_717 (pc := 53) C hP h0 dX9_mayAt_53 ?_
      refine lv_iload_n (pc := 56) hx hb dX9_mayAt_56 rfl (lv_at hl 3 rfl) ?_
      refine r_ialdK (pc := 57) (n := 6) (k := a1.toNatClampNeg) C hP (cl_29_1 hC h0) (fun _ _ _ _ => rfl) hw.1 rfl dX9_mayAt_57 ?_
      replace hw := hw.2
      refine lv_icmp_ge (pc := 58) (tgt := 65) hx hb dX9_mayAt_58 (by decide) (fun h => ?_) (fun h => ?_)
      · replace hw := if_t h hw
        refine lv_iconst (pc := 65) (v := (0 : Int32)) hx hb dX9_mayAt_65 (by decide) ?_
        refine lv_iadd (pc := 66) hx hb dX9_mayAt_66 ?_
        exact r_iret (pc := 67) C hP hS hw dX9_mayAt_67
      · replace hw := if_f h hw
        refine lv_iconst (pc := 61) (v := (2 : Int32)) hx hb dX9_mayAt_61 (by decide) ?_
        refine lv_goto (pc := 62) (tgt := 66) hx hb dX9_mayAt_62 (by decide) ?_
        refine lv_iadd (pc := 66) hx hb dX9_mayAt_66 ?_
        exact r_iret (pc := 67) C hP hS hw dX9_mayAt_67
end
theorem k_X9_mayAt (l : Launch) (G : GG) {I : ix → Prop} {ad : ix → Nat} (hC : clo I) {a1 : Int32} {a2 : Int32} (h0 : I (29, 0, 0, 0)) {Q : Int32 → Mem → Prop} {M : Mem} (hw : w_X9_mayAt a1 a2 Q M) : Met l yX9_mayAt (wW yX9_mayAt cX9_mayAt 9 (some .int)) rm_X9_mayAt (va_Pc [.ref (ad (29, 0, 0, 0)), .int a1, .int a2] (fun U => wd G I ad M U.heap ∧ wK G U)) (qI G I ad Q) 0 0 (fA I ad) := met_of (by decide +kernel) (Nat.le_of_ble_eq_true rfl) (fun p e s m below meth c C hP hS ls hl => j_X9_mayAt_0 C hC h0 _ _ _ _ hw hP hS hl)
section
variable {p : Program} {l : Launch} {e : Env} {s : State} {m : MethodId} {args : Array Value} {below : List Frame} {meth : Method} {c : Code} 
variable  {G : GG} {I : ix → Prop} {ad : ix → Nat}
set_option maxHeartbeats 4000000 in
set_option maxRecDepth 100000 in
theorem j_X9_layRange_525 {a1 : Int32} {a2 : Int32} (C : cx p s m args meth c cX9_layRange 22 none RX9 G) (hC : clo I) (h0 : I (29, 0, 0, 0)) {Q : Mem → Prop} : ∀ (x16 : Int32) (x17 : Int32) (x18 : Int32) (t0 : Int32) (M : Mem) (H : Heap) (locs : List Loc) (ls : Array Slot), w_X9_layRange_525 a1 a2 Q x16 x17 x18 t0 M → wd G I ad M H → va_S (fA I ad) s.heap H locs → lv_has ls 22 [(0, .ref (ad (29, 0, 0, 0))), (2, .int a2), (16, .int x16), (17, .int x17), (18, .int x18)] → W p l e rm_X9_layRange s m args below meth c H locs 0 0 (MQ below (qV G I ad Q) args s 0 0 (fA I ad)) (F0 m 525 ls [.int t0]) := by
  have hx := C.1
  have hb := C.2.1
  have hown := C.2.2.2.1
  have hts := C.2.2.2.2.1
  intro x16 x17 x18 t0 M H locs ls hw hP hS hl
  unfold w_X9_layRange_525 at hw
  refine lv_istore (pc := 525) (lv' := [(19, .int t0), (0, .ref (ad (29, 0, 0, 0))), (2, .int a2), (16, .int x16), (17, .int x17), (18, .int x18)]) hx hb dX9_layRange_525 hl (by decide) rfl (fun ls hl => ?_)
  refine lv_aload_n (pc := 527) hx hb dX9_layRange_527 rfl (lv_at hl 1 rfl) ?_
  refine gf_730 (pc := 528) C hP h0 dX9_layRange_528 ?_
  refine lv_iload_n (pc := 531) hx hb dX9_layRange_531 rfl (lv_at hl 2 rfl) ?_
  refine lv_iload (pc := 532) hx hb dX9_layRange_532 (lv_at hl 3 rfl) ?_
  refine lv_iload (pc := 534) hx hb dX9_layRange_534 (lv_at hl 4 rfl) ?_
  refine lv_icmp_ge (pc := 536) (tgt := 544) hx hb dX9_layRange_536 (by decide) (fun h => ?_) (fun h => ?_)
  · replace hw := if_t h hw
    refine lv_iload (pc := 544) hx hb dX9_layRange_544 (lv_at hl 4 rfl) ?_
    refine r_iastK (pc := 546) (n := 60) (k := a2.toNatClampNeg) C hP hS (cl_29_14 hC h0) (fun _ _ _ _ => rfl) hw.1 rfl dX9_layRange_546 (fun H locs hP hS => ?_)
    replace hw := hw.2
    refine lv_aload_n (pc := 547) hx hb dX9_layRange_547 rfl (lv_at hl 1 rfl) ?_
    refine gf_731 (pc := 548) C hP h0 dX9_layRange_548 ?_
    refine lv_iload_n (pc := 551) hx hb dX9_layRange_551 rfl (lv_at hl 2 rfl) ?_
    refine lv_iload (pc := 552) hx hb dX9_layRange_552 (lv_at hl 5 rfl) ?_
    refine lv_iload (pc := 554) hx hb dX9_layRange_554 (lv_at hl 0 rfl) ?_
    refine lv_icmp_le (pc := 556) (tgt := 564) hx hb dX9_layRange_556 (by decide) (fun h => ?_) (fun h => ?_)
    · replace hw := if_t h hw
      refine lv_iload (pc := 564) hx hb dX9_layRange_564 (lv_at hl 0 rfl) ?_
      refine r_iastK (pc := 566) (n := 60) (k := a2.toNatClampNeg) C hP hS (cl_29_15 hC h0) (fun _ _ _ _ => rfl) hw.1 rfl dX9_layRange_566 (fun H locs hP hS => ?_)
      replace hw := hw.2
      refine lv_goto (pc := 567) (tgt := 778) hx hb dX9_layRange_567 (by decide) ?_
      exact r_vret (pc := 778) C hP hS hw dX9_layRange_778
    · replace hw := if_f h hw
      refine lv_iload (pc := 559) hx hb dX9_layRange_559 (lv_at hl 5 rfl) ?_
      refine lv_goto (pc := 561) (tgt := 566) hx hb dX9_layRange_561 (by decide) ?_
      refine r_iastK (pc := 566) (n := 60) (k := a2.toNatClampNeg) C hP hS (cl_29_15 hC h0) (fun _ _ _ _ => rfl) hw.1 rfl dX9_layRange_566 (fun H locs hP hS => ?_)
      replace hw := hw.2
      refine lv_goto (pc := 567) (tgt := 778) hx hb dX9_layRange_567 (by decide) ?_
      exact r_vret (pc := 778) C hP hS hw dX9_layRange_778
  · replace hw := if_f h hw
    refine lv_iload (pc := 539) hx hb dX9_layRange_539 (lv_at hl 3 rfl) ?_
    refine lv_goto (pc := 541) (tgt := 546) hx hb dX9_layRange_541 (by decide) ?_
    refine r_iastK (pc := 546) (n := 60) (k := a2.toNatClampNeg) C hP hS (cl_29_14 hC h0) (fun _ _ _ _ => rfl) hw.1 rfl dX9_layRange_546 (fun H locs hP hS => ?_)
    replace hw := hw.2
    refine lv_aload_n (pc := 547) hx hb dX9_layRange_547 rfl (lv_at hl 1 rfl) ?_
    refine gf_731 (pc := 548) C hP h0 dX9_layRange_548 ?_
    refine lv_iload_n (pc := 551) hx hb dX9_layRange_551 rfl (lv_at hl 2 rfl) ?_
    refine lv_iload (pc := 552) hx hb dX9_layRange_552 (lv_at hl 5 rfl) ?_
    refine lv_iload (pc := 554) hx hb dX9_layRange_554 (lv_at hl 0 rfl) ?_
    refine lv_icmp_le (pc := 556) (tgt := 564) hx hb dX9_layRange_556 (by decide) (fun h => ?_) (fun h => ?_)
    · replace hw := if_t h hw
      refine lv_iload (pc := 564) hx hb dX9_layRange_564 (lv_at hl 0 rfl) ?_
      refine r_iastK (pc := 566) (n := 60) (k := a2.toNatClampNeg) C hP hS (cl_29_15 hC h0) (fun _ _ _ _ => rfl) hw.1 rfl dX9_layRange_566 (fun H locs hP hS => ?_)
      replace hw := hw.2
      refine lv_goto (pc := 567) (tgt := 778) hx hb dX9_layRange_567 (by decide) ?_
      exact r_vret (pc := 778) C hP hS hw dX9_layRange_778
    · replace hw := if_f h hw
      refine lv_iload (pc := 559) hx hb dX9_layRange_559 (lv_at hl 5 rfl) ?_
      refine lv_goto (pc := 561) (tgt := 566) hx hb dX9_layRange_561 (by decide) ?_
      refine r_iastK (pc := 566) (n := 60) (k := a2.toNatClampNeg) C hP hS (cl_29_15 hC h0) (fun _ _ _ _ => rfl) hw.1 rfl dX9_layRange_566 (fun H locs hP hS => ?_)
      replace hw := hw.2
      refine lv_goto (pc := 567) (tgt := 778) hx hb dX9_layRange_567 (by decide) ?_
      exact r_vret (pc := 778) C hP hS hw dX9_layRange_778
set_option maxHeartbeats 4000000 in
set_option maxRecDepth 100000 in
theorem j_X9_layRange_509 {a1 : Int32} {a2 : Int32} (C : cx p s m args meth c cX9_layRange 22 none RX9 G) (hC : clo I) (h0 : I (29, 0, 0, 0)) {Q : Mem → Prop} : ∀ (x14 : Int32) (x15 : Int32) (x16 : Int32) (x17 : Int32) (t0 : Int32) (M : Mem) (H : Heap) (locs : List Loc) (ls : Array Slot), w_X9_layRange_509 a1 a2 Q x14 x15 x16 x17 t0 M → wd G I ad M H → va_S (fA I ad) s.heap H locs → lv_has ls 22 [(0, .ref (ad (29, 0, 0, 0))), (2, .int a2), (14, .int x14), (15, .int x15), (16, .int x16), (17, .int x17)] → W p l e rm_X9_layRange s m args below meth c H locs 0 0 (MQ below (qV G I ad Q) args s 0 0 (fA I ad)) (F0 m 509 ls [.int t0]) := by
  have hx := C.1
  have hb := C.2.1
  have hown := C.2.2.2.1
  have hts := C.2.2.2.2.1
  intro x14 x15 x16 x17 t0 M H locs ls hw hP hS hl
  unfold w_X9_layRange_509 at hw
  refine lv_istore (pc := 509) (lv' := [(18, .int t0), (0, .ref (ad (29, 0, 0, 0))), (2, .int a2), (14, .int x14), (15, .int x15), (16, .int x16), (17, .int x17)]) hx hb dX9_layRange_509 hl (by decide) rfl (fun ls hl => ?_)
  refine lv_iload (pc := 511) hx hb dX9_layRange_511 (lv_at hl 3 rfl) ?_
  refine lv_iload (pc := 513) hx hb dX9_layRange_513 (lv_at hl 4 rfl) ?_
  refine lv_icmp_le (pc := 515) (tgt := 523) hx hb dX9_layRange_515 (by decide) (fun h => ?_) (fun h => ?_)
  · replace hw := if_t h hw
    refine lv_iload (pc := 523) hx hb dX9_layRange_523 (lv_at hl 4 rfl) ?_
    exact j_X9_layRange_525 C hC h0 x16 x17 t0 x15 M _ _ _ hw hP hS (lv_sub hl [1, 2, 5, 6, 0] rfl)
  · replace hw := if_f h hw
    refine lv_iload (pc := 518) hx hb dX9_layRange_518 (lv_at hl 3 rfl) ?_
    refine lv_goto (pc := 520) (tgt := 525) hx hb dX9_layRange_520 (by decide) ?_
    exact j_X9_layRange_525 C hC h0 x16 x17 t0 x14 M _ _ _ hw hP hS (lv_sub hl [1, 2, 5, 6, 0] rfl)
set_option maxHeartbeats 4000000 in
set_option maxRecDepth 100000 in
theorem j_X9_layRange_493 {a1 : Int32} {a2 : Int32} (C : cx p s m args meth c cX9_layRange 22 none RX9 G) (hC : clo I) (h0 : I (29, 0, 0, 0)) {Q : Mem → Prop} : ∀ (x12 : Int32) (x13 : Int32) (x14 : Int32) (x15 : Int32) (x16 : Int32) (t0 : Int32) (M : Mem) (H : Heap) (locs : List Loc) (ls : Array Slot), w_X9_layRange_493 a1 a2 Q x12 x13 x14 x15 x16 t0 M → wd G I ad M H → va_S (fA I ad) s.heap H locs → lv_has ls 22 [(0, .ref (ad (29, 0, 0, 0))), (2, .int a2), (12, .int x12), (13, .int x13), (14, .int x14), (15, .int x15), (16, .int x16)] → W p l e rm_X9_layRange s m args below meth c H locs 0 0 (MQ below (qV G I ad Q) args s 0 0 (fA I ad)) (F0 m 493 ls [.int t0]) := by
  have hx := C.1
  have hb := C.2.1
  have hown := C.2.2.2.1
  have hts := C.2.2.2.2.1
  intro x12 x13 x14 x15 x16 t0 M H locs ls hw hP hS hl
  unfold w_X9_layRange_493 at hw
  refine lv_istore (pc := 493) (lv' := [(17, .int t0), (0, .ref (ad (29, 0, 0, 0))), (2, .int a2), (12, .int x12), (13, .int x13), (14, .int x14), (15, .int x15), (16, .int x16)]) hx hb dX9_layRange_493 hl (by decide) rfl (fun ls hl => ?_)
  refine lv_iload (pc := 495) hx hb dX9_layRange_495 (lv_at hl 3 rfl) ?_
  refine lv_iload (pc := 497) hx hb dX9_layRange_497 (lv_at hl 4 rfl) ?_
  refine lv_icmp_le (pc := 499) (tgt := 507) hx hb dX9_layRange_499 (by decide) (fun h => ?_) (fun h => ?_)
  · replace hw := if_t h hw
    refine lv_iload (pc := 507) hx hb dX9_layRange_507 (lv_at hl 4 rfl) ?_
    exact j_X9_layRange_509 C hC h0 x14 x15 x16 t0 x13 M _ _ _ hw hP hS (lv_sub hl [1, 2, 5, 6, 7, 0] rfl)
  · replace hw := if_f h hw
    refine lv_iload (pc := 502) hx hb dX9_layRange_502 (lv_at hl 3 rfl) ?_
    refine lv_goto (pc := 504) (tgt := 509) hx hb dX9_layRange_504 (by decide) ?_
    exact j_X9_layRange_509 C hC h0 x14 x15 x16 t0 x12 M _ _ _ hw hP hS (lv_sub hl [1, 2, 5, 6, 7, 0] rfl)
set_option maxHeartbeats 4000000 in
set_option maxRecDepth 100000 in
theorem j_X9_layRange_477 {a1 : Int32} {a2 : Int32} (C : cx p s m args meth c cX9_layRange 22 none RX9 G) (hC : clo I) (h0 : I (29, 0, 0, 0)) {Q : Mem → Prop} : ∀ (x12 : Int32) (x13 : Int32) (x14 : Int32) (x15 : Int32) (t0 : Int32) (M : Mem) (H : Heap) (locs : List Loc) (ls : Array Slot), w_X9_layRange_477 a1 a2 Q x12 x13 x14 x15 t0 M → wd G I ad M H → va_S (fA I ad) s.heap H locs → lv_has ls 22 [(0, .ref (ad (29, 0, 0, 0))), (2, .int a2), (12, .int x12), (13, .int x13), (14, .int x14), (15, .int x15)] → W p l e rm_X9_layRange s m args below meth c H locs 0 0 (MQ below (qV G I ad Q) args s 0 0 (fA I ad)) (F0 m 477 ls [.int t0]) := by
  have hx := C.1
  have hb := C.2.1
  have hown := C.2.2.2.1
  have hts := C.2.2.2.2.1
  intro x12 x13 x14 x15 t0 M H locs ls hw hP hS hl
  unfold w_X9_layRange_477 at hw
  refine lv_istore (pc := 477) (lv' := [(16, .int t0), (0, .ref (ad (29, 0, 0, 0))), (2, .int a2), (12, .int x12), (13, .int x13), (14, .int x14), (15, .int x15)]) hx hb dX9_layRange_477 hl (by decide) rfl (fun ls hl => ?_)
  refine lv_iload (pc := 479) hx hb dX9_layRange_479 (lv_at hl 5 rfl) ?_
  refine lv_iload (pc := 481) hx hb dX9_layRange_481 (lv_at hl 6 rfl) ?_
  refine lv_icmp_ge (pc := 483) (tgt := 491) hx hb dX9_layRange_483 (by decide) (fun h => ?_) (fun h => ?_)
  · replace hw := if_t h hw
    refine lv_iload (pc := 491) hx hb dX9_layRange_491 (lv_at hl 6 rfl) ?_
    exact j_X9_layRange_493 C hC h0 x12 x13 x14 x15 t0 x15 M _ _ _ hw hP hS (lv_sub hl [1, 2, 3, 4, 5, 6, 0] rfl)
  · replace hw := if_f h hw
    refine lv_iload (pc := 486) hx hb dX9_layRange_486 (lv_at hl 5 rfl) ?_
    refine lv_goto (pc := 488) (tgt := 493) hx hb dX9_layRange_488 (by decide) ?_
    exact j_X9_layRange_493 C hC h0 x12 x13 x14 x15 t0 x14 M _ _ _ hw hP hS (lv_sub hl [1, 2, 3, 4, 5, 6, 0] rfl)
set_option maxHeartbeats 4000000 in
set_option maxRecDepth 100000 in
theorem j_X9_layRange_636 {a1 : Int32} {a2 : Int32} (C : cx p s m args meth c cX9_layRange 22 none RX9 G) (hC : clo I) (h0 : I (29, 0, 0, 0)) {Q : Mem → Prop} : ∀ (x6 : Int32) (x7 : Int32) (x20 : Int32) (M : Mem) (H : Heap) (locs : List Loc) (ls : Array Slot), w_X9_layRange_636 a1 a2 Q x6 x7 x20 M → wd G I ad M H → va_S (fA I ad) s.heap H locs → lv_has ls 22 [(0, .ref (ad (29, 0, 0, 0))), (2, .int a2), (6, .int x6), (7, .int x7), (20, .int x20)] → W p l e rm_X9_layRange s m args below meth c H locs 0 0 (MQ below (qV G I ad Q) args s 0 0 (fA I ad)) (F0 m 636 ls []) := by
  have hx := C.1
  have hb := C.2.1
  have hown := C.2.2.2.1
  have hts := C.2.2.2.2.1
  intro x6 x7 x20 M H locs ls hw hP hS hl
  unfold w_X9_layRange_636 at hw
  refine lv_aload_n (pc := 636) hx hb dX9_layRange_636 rfl (lv_at hl 0 rfl) ?_
  refine gf_730 (pc := 637) C hP h0 dX9_layRange_637 ?_
  refine lv_iload_n (pc := 640) hx hb dX9_layRange_640 rfl (lv_at hl 1 rfl) ?_
  refine lv_iload (pc := 641) hx hb dX9_layRange_641 (lv_at hl 2 rfl) ?_
  refine lv_if_lt (pc := 643) (tgt := 650) hx hb dX9_layRange_643 (by decide) (fun h => ?_) (fun h => ?_)
  · replace hw := if_t h hw
    refine lv_iload (pc := 650) hx hb dX9_layRange_650 (lv_at hl 2 rfl) ?_
    refine lv_iconst (pc := 652) (v := (1 : Int32)) hx hb dX9_layRange_652 (by decide) ?_
    refine lv_iload (pc := 653) hx hb dX9_layRange_653 (lv_at hl 4 rfl) ?_
    refine lv_isub (pc := 655) hx hb dX9_layRange_655 ?_
    refine lv_icmp_le (pc := 656) (tgt := 664) hx hb dX9_layRange_656 (by decide) (fun h => ?_) (fun h => ?_)
    · replace hw := if_t h hw
      refine lv_iconst (pc := 664) (v := (1 : Int32)) hx hb dX9_layRange_664 (by decide) ?_
      refine lv_iload (pc := 665) hx hb dX9_layRange_665 (lv_at hl 4 rfl) ?_
      refine lv_isub (pc := 667) hx hb dX9_layRange_667 ?_
      refine r_iastK (pc := 668) (n := 60) (k := a2.toNatClampNeg) C hP hS (cl_29_14 hC h0) (fun _ _ _ _ => rfl) hw.1 rfl dX9_layRange_668 (fun H locs hP hS => ?_)
      replace hw := hw.2
      refine lv_aload_n (pc := 669) hx hb dX9_layRange_669 rfl (lv_at hl 0 rfl) ?_
      refine gf_731 (pc := 670) C hP h0 dX9_layRange_670 ?_
      refine lv_iload_n (pc := 673) hx hb dX9_layRange_673 rfl (lv_at hl 1 rfl) ?_
      refine lv_iload (pc := 674) hx hb dX9_layRange_674 (lv_at hl 3 rfl) ?_
      refine lv_if_gt (pc := 676) (tgt := 683) hx hb dX9_layRange_676 (by decide) (fun h => ?_) (fun h => ?_)
      · replace hw := if_t h hw
        refine lv_iload (pc := 683) hx hb dX9_layRange_683 (lv_at hl 3 rfl) ?_
        refine lv_iload (pc := 685) hx hb dX9_layRange_685 (lv_at hl 4 rfl) ?_
        refine lv_iconst (pc := 687) (v := (1 : Int32)) hx hb dX9_layRange_687 (by decide) ?_
        refine lv_isub (pc := 688) hx hb dX9_layRange_688 ?_
        refine lv_icmp_ge (pc := 689) (tgt := 697) hx hb dX9_layRange_689 (by decide) (fun h => ?_) (fun h => ?_)
        · replace hw := if_t h hw
          refine lv_iload (pc := 697) hx hb dX9_layRange_697 (lv_at hl 4 rfl) ?_
          refine lv_iconst (pc := 699) (v := (1 : Int32)) hx hb dX9_layRange_699 (by decide) ?_
          refine lv_isub (pc := 700) hx hb dX9_layRange_700 ?_
          refine r_iastK (pc := 701) (n := 60) (k := a2.toNatClampNeg) C hP hS (cl_29_15 hC h0) (fun _ _ _ _ => rfl) hw.1 rfl dX9_layRange_701 (fun H locs hP hS => ?_)
          replace hw := hw.2
          refine lv_goto (pc := 702) (tgt := 778) hx hb dX9_layRange_702 (by decide) ?_
          exact r_vret (pc := 778) C hP hS hw dX9_layRange_778
        · replace hw := if_f h hw
          refine lv_iload (pc := 692) hx hb dX9_layRange_692 (lv_at hl 3 rfl) ?_
          refine lv_goto (pc := 694) (tgt := 701) hx hb dX9_layRange_694 (by decide) ?_
          refine r_iastK (pc := 701) (n := 60) (k := a2.toNatClampNeg) C hP hS (cl_29_15 hC h0) (fun _ _ _ _ => rfl) hw.1 rfl dX9_layRange_701 (fun H locs hP hS => ?_)
          replace hw := hw.2
          refine lv_goto (pc := 702) (tgt := 778) hx hb dX9_layRange_702 (by decide) ?_
          exact r_vret (pc := 778) C hP hS hw dX9_layRange_778
      · replace hw := if_f h hw
        refine lv_iconst (pc := 679) (v := (0 : Int32)) hx hb dX9_layRange_679 (by decide) ?_
        refine lv_goto (pc := 680) (tgt := 701) hx hb dX9_layRange_680 (by decide) ?_
        refine r_iastK (pc := 701) (n := 60) (k := a2.toNatClampNeg) C hP hS (cl_29_15 hC h0) (fun _ _ _ _ => rfl) hw.1 rfl dX9_layRange_701 (fun H locs hP hS => ?_)
        replace hw := hw.2
        refine lv_goto (pc := 702) (tgt := 778) hx hb dX9_layRange_702 (by decide) ?_
        exact r_vret (pc := 778) C hP hS hw dX9_layRange_778
    · replace hw := if_f h hw
      refine lv_iload (pc := 659) hx hb dX9_layRange_659 (lv_at hl 2 rfl) ?_
      refine lv_goto (pc := 661) (tgt := 668) hx hb dX9_layRange_661 (by decide) ?_
      refine r_iastK (pc := 668) (n := 60) (k := a2.toNatClampNeg) C hP hS (cl_29_14 hC h0) (fun _ _ _ _ => rfl) hw.1 rfl dX9_layRange_668 (fun H locs hP hS => ?_)
      replace hw := hw.2
      refine lv_aload_n (pc := 669) hx hb dX9_layRange_669 rfl (lv_at hl 0 rfl) ?_
      refine gf_731 (pc := 670) C hP h0 dX9_layRange_670 ?_
      refine lv_iload_n (pc := 673) hx hb dX9_layRange_673 rfl (lv_at hl 1 rfl) ?_
      refine lv_iload (pc := 674) hx hb dX9_layRange_674 (lv_at hl 3 rfl) ?_
      refine lv_if_gt (pc := 676) (tgt := 683) hx hb dX9_layRange_676 (by decide) (fun h => ?_) (fun h => ?_)
      · replace hw := if_t h hw
        refine lv_iload (pc := 683) hx hb dX9_layRange_683 (lv_at hl 3 rfl) ?_
        refine lv_iload (pc := 685) hx hb dX9_layRange_685 (lv_at hl 4 rfl) ?_
        refine lv_iconst (pc := 687) (v := (1 : Int32)) hx hb dX9_layRange_687 (by decide) ?_
        refine lv_isub (pc := 688) hx hb dX9_layRange_688 ?_
        refine lv_icmp_ge (pc := 689) (tgt := 697) hx hb dX9_layRange_689 (by decide) (fun h => ?_) (fun h => ?_)
        · replace hw := if_t h hw
          refine lv_iload (pc := 697) hx hb dX9_layRange_697 (lv_at hl 4 rfl) ?_
          refine lv_iconst (pc := 699) (v := (1 : Int32)) hx hb dX9_layRange_699 (by decide) ?_
          refine lv_isub (pc := 700) hx hb dX9_layRange_700 ?_
          refine r_iastK (pc := 701) (n := 60) (k := a2.toNatClampNeg) C hP hS (cl_29_15 hC h0) (fun _ _ _ _ => rfl) hw.1 rfl dX9_layRange_701 (fun H locs hP hS => ?_)
          replace hw := hw.2
          refine lv_goto (pc := 702) (tgt := 778) hx hb dX9_layRange_702 (by decide) ?_
          exact r_vret (pc := 778) C hP hS hw dX9_layRange_778
        · replace hw := if_f h hw
          refine lv_iload (pc := 692) hx hb dX9_layRange_692 (lv_at hl 3 rfl) ?_
          refine lv_goto (pc := 694) (tgt := 701) hx hb dX9_layRange_694 (by decide) ?_
          refine r_iastK (pc := 701) (n := 60) (k := a2.toNatClampNeg) C hP hS (cl_29_15 hC h0) (fun _ _ _ _ => rfl) hw.1 rfl dX9_layRange_701 (fun H locs hP hS => ?_)
          replace hw := hw.2
          refine lv_goto (pc := 702) (tgt := 778) hx hb dX9_layRange_702 (by decide) ?_
          exact r_vret (pc := 778) C hP hS hw dX9_layRange_778
      · replace hw := if_f h hw
        refine lv_iconst (pc := 679) (v := (0 : Int32)) hx hb dX9_layRange_679 (by decide) ?_
        refine lv_goto (pc := 680) (tgt := 701) hx hb dX9_layRange_680 (by decide) ?_
        refine r_iastK (pc := 701) (n := 60) (k := a2.toNatClampNeg) C hP hS (cl_29_15 hC h0) (fun _ _ _ _ => rfl) hw.1 rfl dX9_layRange_701 (fun H locs hP hS => ?_)
        replace hw := hw.2
        refine lv_goto (pc := 702) (tgt := 778) hx hb dX9_layRange_702 (by decide) ?_
        exact r_vret (pc := 778) C hP hS hw dX9_layRange_778
  · replace hw := if_f h hw
    refine lv_iconst (pc := 646) (v := (0 : Int32)) hx hb dX9_layRange_646 (by decide) ?_
    refine lv_goto (pc := 647) (tgt := 668) hx hb dX9_layRange_647 (by decide) ?_
    refine r_iastK (pc := 668) (n := 60) (k := a2.toNatClampNeg) C hP hS (cl_29_14 hC h0) (fun _ _ _ _ => rfl) hw.1 rfl dX9_layRange_668 (fun H locs hP hS => ?_)
    replace hw := hw.2
    refine lv_aload_n (pc := 669) hx hb dX9_layRange_669 rfl (lv_at hl 0 rfl) ?_
    refine gf_731 (pc := 670) C hP h0 dX9_layRange_670 ?_
    refine lv_iload_n (pc := 673) hx hb dX9_layRange_673 rfl (lv_at hl 1 rfl) ?_
    refine lv_iload (pc := 674) hx hb dX9_layRange_674 (lv_at hl 3 rfl) ?_
    refine lv_if_gt (pc := 676) (tgt := 683) hx hb dX9_layRange_676 (by decide) (fun h => ?_) (fun h => ?_)
    · replace hw := if_t h hw
      refine lv_iload (pc := 683) hx hb dX9_layRange_683 (lv_at hl 3 rfl) ?_
      refine lv_iload (pc := 685) hx hb dX9_layRange_685 (lv_at hl 4 rfl) ?_
      refine lv_iconst (pc := 687) (v := (1 : Int32)) hx hb dX9_layRange_687 (by decide) ?_
      refine lv_isub (pc := 688) hx hb dX9_layRange_688 ?_
      refine lv_icmp_ge (pc := 689) (tgt := 697) hx hb dX9_layRange_689 (by decide) (fun h => ?_) (fun h => ?_)
      · replace hw := if_t h hw
        refine lv_iload (pc := 697) hx hb dX9_layRange_697 (lv_at hl 4 rfl) ?_
        refine lv_iconst (pc := 699) (v := (1 : Int32)) hx hb dX9_layRange_699 (by decide) ?_
        refine lv_isub (pc := 700) hx hb dX9_layRange_700 ?_
        refine r_iastK (pc := 701) (n := 60) (k := a2.toNatClampNeg) C hP hS (cl_29_15 hC h0) (fun _ _ _ _ => rfl) hw.1 rfl dX9_layRange_701 (fun H locs hP hS => ?_)
        replace hw := hw.2
        refine lv_goto (pc := 702) (tgt := 778) hx hb dX9_layRange_702 (by decide) ?_
        exact r_vret (pc := 778) C hP hS hw dX9_layRange_778
      · replace hw := if_f h hw
        refine lv_iload (pc := 692) hx hb dX9_layRange_692 (lv_at hl 3 rfl) ?_
        refine lv_goto (pc := 694) (tgt := 701) hx hb dX9_layRange_694 (by decide) ?_
        refine r_iastK (pc := 701) (n := 60) (k := a2.toNatClampNeg) C hP hS (cl_29_15 hC h0) (fun _ _ _ _ => rfl) hw.1 rfl dX9_layRange_701 (fun H locs hP hS => ?_)
        replace hw := hw.2
        refine lv_goto (pc := 702) (tgt := 778) hx hb dX9_layRange_702 (by decide) ?_
        exact r_vret (pc := 778) C hP hS hw dX9_layRange_778
    · replace hw := if_f h hw
      refine lv_iconst (pc := 679) (v := (0 : Int32)) hx hb dX9_layRange_679 (by decide) ?_
      refine lv_goto (pc := 680) (tgt := 701) hx hb dX9_layRange_680 (by decide) ?_
      refine r_iastK (pc := 701) (n := 60) (k := a2.toNatClampNeg) C hP hS (cl_29_15 hC h0) (fun _ _ _ _ => rfl) hw.1 rfl dX9_layRange_701 (fun H locs hP hS => ?_)
      replace hw := hw.2
      refine lv_goto (pc := 702) (tgt := 778) hx hb dX9_layRange_702 (by decide) ?_
      exact r_vret (pc := 778) C hP hS hw dX9_layRange_778
set_option maxHeartbeats 4000000 in
set_option maxRecDepth 100000 in
theorem j_X9_layRange_197 {a1 : Int32} {a2 : Int32} (C : cx p s m args meth c cX9_layRange 22 none RX9 G) (hC : clo I) (h0 : I (29, 0, 0, 0)) {Q : Mem → Prop} : ∀ (x4 : Int32) (t0 : Int32) (M : Mem) (H : Heap) (locs : List Loc) (ls : Array Slot), w_X9_layRange_197 a1 a2 Q x4 t0 M → wd G I ad M H → va_S (fA I ad) s.heap H locs → lv_has ls 22 [(0, .ref (ad (29, 0, 0, 0))), (2, .int a2), (4, .int x4)] → W p l e rm_X9_layRange s m args below meth c H locs 0 0 (MQ below (qV G I ad Q) args s 0 0 (fA I ad)) (F0 m 197 ls [.int t0]) := by
  have hx := C.1
  have hb := C.2.1
  have hown := C.2.2.2.1
  have hts := C.2.2.2.2.1
  intro x4 t0 M H locs ls hw hP hS hl
  unfold w_X9_layRange_197 at hw
  refine lv_istore (pc := 197) (lv' := [(5, .int t0), (0, .ref (ad (29, 0, 0, 0))), (2, .int a2), (4, .int x4)]) hx hb dX9_layRange_197 hl (by decide) rfl (fun ls hl => ?_)
  refine lv_aload_n (pc := 199) hx hb dX9_layRange_199 rfl (lv_at hl 1 rfl) ?_
  refine gf_729 (pc := 200) C hP h0 dX9_layRange_200 ?_
  refine lv_iload_n (pc := 203) hx hb dX9_layRange_203 rfl (lv_at hl 2 rfl) ?_
  refine lv_aload_n (pc := 204) hx hb dX9_layRange_204 rfl (lv_at hl 1 rfl) ?_
  refine gf_729 (pc := 205) C hP h0 dX9_layRange_205 ?_
  refine lv_iload (pc := 208) hx hb dX9_layRange_208 (lv_at hl 3 rfl) ?_
  refine r_ialdK (pc := 210) (n := 60) (k := x4.toNatClampNeg) C hP (cl_29_13 hC h0) (fun _ _ _ _ => rfl) hw.1 rfl dX9_layRange_210 ?_
  replace hw := hw.2
  refine lv_aload_n (pc := 211) hx hb dX9_layRange_211 rfl (lv_at hl 1 rfl) ?_
  refine gf_729 (pc := 212) C hP h0 dX9_layRange_212 ?_
  refine lv_iload (pc := 215) hx hb dX9_layRange_215 (lv_at hl 0 rfl) ?_
  refine r_ialdK (pc := 217) (n := 60) (k := t0.toNatClampNeg) C hP (cl_29_13 hC h0) (fun _ _ _ _ => rfl) hw.1 rfl dX9_layRange_217 ?_
  replace hw := hw.2
  refine lv_iand (pc := 218) hx hb dX9_layRange_218 ?_
  refine lv_iconst (pc := 219) (v := (1 : Int32)) hx hb dX9_layRange_219 (by decide) ?_
  refine lv_iand (pc := 220) hx hb dX9_layRange_220 ?_
  refine lv_aload_n (pc := 221) hx hb dX9_layRange_221 rfl (lv_at hl 1 rfl) ?_
  refine gf_729 (pc := 222) C hP h0 dX9_layRange_222 ?_
  refine lv_iload (pc := 225) hx hb dX9_layRange_225 (lv_at hl 3 rfl) ?_
  refine r_ialdK (pc := 227) (n := 60) (k := x4.toNatClampNeg) C hP (cl_29_13 hC h0) (fun _ _ _ _ => rfl) hw.1 rfl dX9_layRange_227 ?_
  replace hw := hw.2
  refine lv_aload_n (pc := 228) hx hb dX9_layRange_228 rfl (lv_at hl 1 rfl) ?_
  refine gf_729 (pc := 229) C hP h0 dX9_layRange_229 ?_
  refine lv_iload (pc := 232) hx hb dX9_layRange_232 (lv_at hl 0 rfl) ?_
  refine r_ialdK (pc := 234) (n := 60) (k := t0.toNatClampNeg) C hP (cl_29_13 hC h0) (fun _ _ _ _ => rfl) hw.1 rfl dX9_layRange_234 ?_
  replace hw := hw.2
  refine lv_ior (pc := 235) hx hb dX9_layRange_235 ?_
  refine lv_iconst (pc := 236) (v := (2 : Int32)) hx hb dX9_layRange_236 (by decide) ?_
  refine lv_iand (pc := 237) hx hb dX9_layRange_237 ?_
  refine lv_iadd (pc := 238) hx hb dX9_layRange_238 ?_
  refine r_iastK (pc := 239) (n := 60) (k := a2.toNatClampNeg) C hP hS (cl_29_13 hC h0) (fun _ _ _ _ => rfl) hw.1 rfl dX9_layRange_239 (fun H locs hP hS => ?_)
  replace hw := hw.2
  obtain ⟨M239, eM239⟩ : ∃ z : Mem, z = (mu M (42, 0, 0, 0) (a2.toNatClampNeg) ((((M.1 (42, 0, 0, 0) x4.toNatClampNeg) &&& (M.1 (42, 0, 0, 0) t0.toNatClampNeg)) &&& (1 : Int32)) + (((M.1 (42, 0, 0, 0) x4.toNatClampNeg) ||| (M.1 (42, 0, 0, 0) t0.toNatClampNeg)) &&& (2 : Int32)))) := ⟨_, rfl⟩
  replace hP : wd G I ad M239 H := by rw [eM239]; exact hP
  replace hw := hw M239 eM239
  refine lv_aload_n (pc := 240) hx hb dX9_layRange_240 rfl (lv_at hl 1 rfl) ?_
  refine gf_729 (pc := 241) C hP h0 dX9_layRange_241 ?_
  refine lv_iload_n (pc := 244) hx hb dX9_layRange_244 rfl (lv_at hl 2 rfl) ?_
  refine r_ialdK (pc := 245) (n := 60) (k := a2.toNatClampNeg) C hP (cl_29_13 hC h0) (fun _ _ _ _ => rfl) hw.1 rfl dX9_layRange_245 ?_
  replace hw := hw.2
  refine lv_iconst (pc := 246) (v := (1 : Int32)) hx hb dX9_layRange_246 (by decide) ?_
  refine lv_iand (pc := 247) hx hb dX9_layRange_247 ?_
  refine lv_if_ne (pc := 248) (tgt := 252) hx hb dX9_layRange_248 (by decide) (fun h => ?_) (fun h => ?_)
  · replace hw := if_f h hw
    refine lv_aload_n (pc := 252) hx hb dX9_layRange_252 rfl (lv_at hl 1 rfl) ?_
    refine gf_730 (pc := 253) C hP h0 dX9_layRange_253 ?_
    refine lv_iload (pc := 256) hx hb dX9_layRange_256 (lv_at hl 3 rfl) ?_
    refine r_ialdK (pc := 258) (n := 60) (k := x4.toNatClampNeg) C hP (cl_29_14 hC h0) (fun _ _ _ _ => rfl) hw.1 rfl dX9_layRange_258 ?_
    replace hw := hw.2
    refine lv_topi (fun x6_259 ex6_259 => ?_)
    replace hw := hw x6_259 ex6_259
    refine lv_istore (pc := 259) (lv' := [(6, .int x6_259), (5, .int t0), (0, .ref (ad (29, 0, 0, 0))), (2, .int a2), (4, .int x4)]) hx hb dX9_layRange_259 hl (by decide) rfl (fun ls hl => ?_)
    refine lv_aload_n (pc := 261) hx hb dX9_layRange_261 rfl (lv_at hl 2 rfl) ?_
    refine gf_731 (pc := 262) C hP h0 dX9_layRange_262 ?_
    refine lv_iload (pc := 265) hx hb dX9_layRange_265 (lv_at hl 4 rfl) ?_
    refine r_ialdK (pc := 267) (n := 60) (k := x4.toNatClampNeg) C hP (cl_29_15 hC h0) (fun _ _ _ _ => rfl) hw.1 rfl dX9_layRange_267 ?_
    replace hw := hw.2
    refine lv_topi (fun x7_268 ex7_268 => ?_)
    replace hw := hw x7_268 ex7_268
    refine lv_istore (pc := 268) (lv' := [(7, .int x7_268), (6, .int x6_259), (5, .int t0), (0, .ref (ad (29, 0, 0, 0))), (2, .int a2), (4, .int x4)]) hx hb dX9_layRange_268 hl (by decide) rfl (fun ls hl => ?_)
    refine lv_aload_n (pc := 270) hx hb dX9_layRange_270 rfl (lv_at hl 3 rfl) ?_
    refine gf_730 (pc := 271) C hP h0 dX9_layRange_271 ?_
    refine lv_iload (pc := 274) hx hb dX9_layRange_274 (lv_at hl 2 rfl) ?_
    refine r_ialdK (pc := 276) (n := 60) (k := t0.toNatClampNeg) C hP (cl_29_14 hC h0) (fun _ _ _ _ => rfl) hw.1 rfl dX9_layRange_276 ?_
    replace hw := hw.2
    refine lv_i2l (pc := 277) hx hb dX9_layRange_277 rfl ?_
    refine lv_topl (fun x8_278 ex8_278 => ?_)
    replace hw := hw x8_278 ex8_278
    refine lv_lstore (pc := 278) (lv' := [(8, .long x8_278), (7, .int x7_268), (6, .int x6_259), (5, .int t0), (0, .ref (ad (29, 0, 0, 0))), (2, .int a2), (4, .int x4)]) hx hb dX9_layRange_278 hl (by decide) rfl (fun ls hl => ?_)
    refine lv_aload_n (pc := 280) hx hb dX9_layRange_280 rfl (lv_at hl 4 rfl) ?_
    refine gf_731 (pc := 281) C hP h0 dX9_layRange_281 ?_
    refine lv_iload (pc := 284) hx hb dX9_layRange_284 (lv_at hl 3 rfl) ?_
    refine r_ialdK (pc := 286) (n := 60) (k := t0.toNatClampNeg) C hP (cl_29_15 hC h0) (fun _ _ _ _ => rfl) hw.1 rfl dX9_layRange_286 ?_
    replace hw := hw.2
    refine lv_i2l (pc := 287) hx hb dX9_layRange_287 rfl ?_
    refine lv_topl (fun x10_288 ex10_288 => ?_)
    replace hw := hw x10_288 ex10_288
    refine lv_lstore (pc := 288) (lv' := [(10, .long x10_288), (8, .long x8_278), (7, .int x7_268), (6, .int x6_259), (5, .int t0), (0, .ref (ad (29, 0, 0, 0))), (2, .int a2), (4, .int x4)]) hx hb dX9_layRange_288 hl (by decide) rfl (fun ls hl => ?_)
    refine lv_aload_n (pc := 290) hx hb dX9_layRange_290 rfl (lv_at hl 5 rfl) ?_
    refine gf_722 (pc := 291) C hP h0 dX9_layRange_291 ?_
    refine lv_iload_n (pc := 294) hx hb dX9_layRange_294 rfl (lv_at hl 6 rfl) ?_
    refine r_ialdK (pc := 295) (n := 60) (k := a2.toNatClampNeg) C hP (cl_29_6 hC h0) (fun _ _ _ _ => rfl) hw.1 rfl dX9_layRange_295 ?_
    replace hw := hw.2
    by_cases hk0 : (M239.1 (35, 0, 0, 0) a2.toNatClampNeg) = (4 : Int32)
    · replace hw := if_t hk0 hw
      refine lv_tableIn (pc := 296) (tgt := 332) (off := 36) hx hb dX9_layRange_296 (by rw [hk0]; decide) (by rw [hk0]; decide) (by rw [hk0]; rfl) (by decide) ?_
      refine lv_aload_n (pc := 332) hx hb dX9_layRange_332 rfl (lv_at hl 5 rfl) ?_
      refine gf_730 (pc := 333) C hP h0 dX9_layRange_333 ?_
      refine lv_iload_n (pc := 336) hx hb dX9_layRange_336 rfl (lv_at hl 6 rfl) ?_
      refine lv_iload (pc := 337) hx hb dX9_layRange_337 (lv_at hl 2 rfl) ?_
      refine lv_ineg (pc := 339) hx hb dX9_layRange_339 ?_
      refine r_iastK (pc := 340) (n := 60) (k := a2.toNatClampNeg) C hP hS (cl_29_14 hC h0) (fun _ _ _ _ => rfl) hw.1 rfl dX9_layRange_340 (fun H locs hP hS => ?_)
      replace hw := hw.2
      refine lv_aload_n (pc := 341) hx hb dX9_layRange_341 rfl (lv_at hl 5 rfl) ?_
      refine gf_731 (pc := 342) C hP h0 dX9_layRange_342 ?_
      refine lv_iload_n (pc := 345) hx hb dX9_layRange_345 rfl (lv_at hl 6 rfl) ?_
      refine lv_iload (pc := 346) hx hb dX9_layRange_346 (lv_at hl 3 rfl) ?_
      refine lv_ineg (pc := 348) hx hb dX9_layRange_348 ?_
      refine r_iastK (pc := 349) (n := 60) (k := a2.toNatClampNeg) C hP hS (cl_29_15 hC h0) (fun _ _ _ _ => rfl) hw.1 rfl dX9_layRange_349 (fun H locs hP hS => ?_)
      replace hw := hw.2
      refine lv_goto (pc := 350) (tgt := 778) hx hb dX9_layRange_350 (by decide) ?_
      exact r_vret (pc := 778) C hP hS hw dX9_layRange_778
    · replace hw := if_f hk0 hw
      by_cases hk1 : (M239.1 (35, 0, 0, 0) a2.toNatClampNeg) = (5 : Int32)
      · replace hw := if_t hk1 hw
        refine lv_tableIn (pc := 296) (tgt := 353) (off := 57) hx hb dX9_layRange_296 (by rw [hk1]; decide) (by rw [hk1]; decide) (by rw [hk1]; rfl) (by decide) ?_
        refine lv_aload_n (pc := 353) hx hb dX9_layRange_353 rfl (lv_at hl 5 rfl) ?_
        refine gf_730 (pc := 354) C hP h0 dX9_layRange_354 ?_
        refine lv_iload_n (pc := 357) hx hb dX9_layRange_357 rfl (lv_at hl 6 rfl) ?_
        refine lv_iload (pc := 358) hx hb dX9_layRange_358 (lv_at hl 3 rfl) ?_
        refine lv_i2l (pc := 360) hx hb dX9_layRange_360 rfl ?_
        refine lv_lload (pc := 361) hx hb dX9_layRange_361 (lv_at hl 1 rfl) ?_
        refine lv_ladd (pc := 363) hx hb dX9_layRange_363 ?_
        refine r_cSI (pc := 364) (rest := [.int a2, .ref (ad (43, 0, 0, 0))]) (As := [.long ((x6_259.toInt64) + x8_278)]) C hl.1 hP hS (k_X9_cut l G hC  hw) mw_880 mw_881 mw_65 mw_882 ⟨rfl, rfl⟩ hd_X9_cut rfl rfl ⟨Nat.le_of_ble_eq_true rfl, Nat.le_of_ble_eq_true rfl⟩ (Nat.le_of_ble_eq_true rfl) ⟨Nat.zero_le _, Nat.zero_le _⟩ dX9_layRange_364 (fun r364 M364 H locs hw hP hS => ?_)
        refine r_iastK (pc := 367) (n := 60) (k := a2.toNatClampNeg) C hP hS (cl_29_14 hC h0) (fun _ _ _ _ => rfl) hw.1 rfl dX9_layRange_367 (fun H locs hP hS => ?_)
        replace hw := hw.2
        refine lv_aload_n (pc := 368) hx hb dX9_layRange_368 rfl (lv_at hl 5 rfl) ?_
        refine gf_731 (pc := 369) C hP h0 dX9_layRange_369 ?_
        refine lv_iload_n (pc := 372) hx hb dX9_layRange_372 rfl (lv_at hl 6 rfl) ?_
        refine lv_iload (pc := 373) hx hb dX9_layRange_373 (lv_at hl 2 rfl) ?_
        refine lv_i2l (pc := 375) hx hb dX9_layRange_375 rfl ?_
        refine lv_lload (pc := 376) hx hb dX9_layRange_376 (lv_at hl 0 rfl) ?_
        refine lv_ladd (pc := 378) hx hb dX9_layRange_378 ?_
        refine r_cSI (pc := 379) (rest := [.int a2, .ref (ad (44, 0, 0, 0))]) (As := [.long ((x7_268.toInt64) + x10_288)]) C hl.1 hP hS (k_X9_cut l G hC  hw) mw_880 mw_881 mw_65 mw_882 ⟨rfl, rfl⟩ hd_X9_cut rfl rfl ⟨Nat.le_of_ble_eq_true rfl, Nat.le_of_ble_eq_true rfl⟩ (Nat.le_of_ble_eq_true rfl) ⟨Nat.zero_le _, Nat.zero_le _⟩ dX9_layRange_379 (fun r379 M379 H locs hw hP hS => ?_)
        refine r_iastK (pc := 382) (n := 60) (k := a2.toNatClampNeg) C hP hS (cl_29_15 hC h0) (fun _ _ _ _ => rfl) hw.1 rfl dX9_layRange_382 (fun H locs hP hS => ?_)
        replace hw := hw.2
        refine lv_goto (pc := 383) (tgt := 778) hx hb dX9_layRange_383 (by decide) ?_
        exact r_vret (pc := 778) C hP hS hw dX9_layRange_778
      · replace hw := if_f hk1 hw
        by_cases hk2 : (M239.1 (35, 0, 0, 0) a2.toNatClampNeg) = (6 : Int32)
        · replace hw := if_t hk2 hw
          refine lv_tableIn (pc := 296) (tgt := 386) (off := 90) hx hb dX9_layRange_296 (by rw [hk2]; decide) (by rw [hk2]; decide) (by rw [hk2]; rfl) (by decide) ?_
          refine lv_aload_n (pc := 386) hx hb dX9_layRange_386 rfl (lv_at hl 5 rfl) ?_
          refine gf_730 (pc := 387) C hP h0 dX9_layRange_387 ?_
          refine lv_iload_n (pc := 390) hx hb dX9_layRange_390 rfl (lv_at hl 6 rfl) ?_
          refine lv_iload (pc := 391) hx hb dX9_layRange_391 (lv_at hl 3 rfl) ?_
          refine lv_i2l (pc := 393) hx hb dX9_layRange_393 rfl ?_
          refine lv_lload (pc := 394) hx hb dX9_layRange_394 (lv_at hl 0 rfl) ?_
          refine lv_lsub (pc := 396) hx hb dX9_layRange_396 ?_
          refine r_cSI (pc := 397) (rest := [.int a2, .ref (ad (43, 0, 0, 0))]) (As := [.long ((x6_259.toInt64) - x10_288)]) C hl.1 hP hS (k_X9_cut l G hC  hw) mw_880 mw_881 mw_65 mw_882 ⟨rfl, rfl⟩ hd_X9_cut rfl rfl ⟨Nat.le_of_ble_eq_true rfl, Nat.le_of_ble_eq_true rfl⟩ (Nat.le_of_ble_eq_true rfl) ⟨Nat.zero_le _, Nat.zero_le _⟩ dX9_layRange_397 (fun r397 M397 H locs hw hP hS => ?_)
          refine r_iastK (pc := 400) (n := 60) (k := a2.toNatClampNeg) C hP hS (cl_29_14 hC h0) (fun _ _ _ _ => rfl) hw.1 rfl dX9_layRange_400 (fun H locs hP hS => ?_)
          replace hw := hw.2
          refine lv_aload_n (pc := 401) hx hb dX9_layRange_401 rfl (lv_at hl 5 rfl) ?_
          refine gf_731 (pc := 402) C hP h0 dX9_layRange_402 ?_
          refine lv_iload_n (pc := 405) hx hb dX9_layRange_405 rfl (lv_at hl 6 rfl) ?_
          refine lv_iload (pc := 406) hx hb dX9_layRange_406 (lv_at hl 2 rfl) ?_
          refine lv_i2l (pc := 408) hx hb dX9_layRange_408 rfl ?_
          refine lv_lload (pc := 409) hx hb dX9_layRange_409 (lv_at hl 1 rfl) ?_
          refine lv_lsub (pc := 411) hx hb dX9_layRange_411 ?_
          refine r_cSI (pc := 412) (rest := [.int a2, .ref (ad (44, 0, 0, 0))]) (As := [.long ((x7_268.toInt64) - x8_278)]) C hl.1 hP hS (k_X9_cut l G hC  hw) mw_880 mw_881 mw_65 mw_882 ⟨rfl, rfl⟩ hd_X9_cut rfl rfl ⟨Nat.le_of_ble_eq_true rfl, Nat.le_of_ble_eq_true rfl⟩ (Nat.le_of_ble_eq_true rfl) ⟨Nat.zero_le _, Nat.zero_le _⟩ dX9_layRange_412 (fun r412 M412 H locs hw hP hS => ?_)
          refine r_iastK (pc := 415) (n := 60) (k := a2.toNatClampNeg) C hP hS (cl_29_15 hC h0) (fun _ _ _ _ => rfl) hw.1 rfl dX9_layRange_415 (fun H locs hP hS => ?_)
          replace hw := hw.2
          refine lv_goto (pc := 416) (tgt := 778) hx hb dX9_layRange_416 (by decide) ?_
          exact r_vret (pc := 778) C hP hS hw dX9_layRange_778
        · replace hw := if_f hk2 hw
          by_cases hk3 : (M239.1 (35, 0, 0, 0) a2.toNatClampNeg) = (7 : Int32)
          · replace hw := if_t hk3 hw
            refine lv_tableIn (pc := 296) (tgt := 419) (off := 123) hx hb dX9_layRange_296 (by rw [hk3]; decide) (by rw [hk3]; decide) (by rw [hk3]; rfl) (by decide) ?_
            refine lv_iload (pc := 419) hx hb dX9_layRange_419 (lv_at hl 3 rfl) ?_
            refine lv_i2l (pc := 421) hx hb dX9_layRange_421 rfl ?_
            refine lv_lload (pc := 422) hx hb dX9_layRange_422 (lv_at hl 1 rfl) ?_
            refine lv_lmul (pc := 424) hx hb dX9_layRange_424 ?_
            refine r_cSI (pc := 425) (rest := []) (As := [.long ((x6_259.toInt64) * x8_278)]) C hl.1 hP hS (k_X9_cut l G hC  hw) mw_880 mw_881 mw_65 mw_882 ⟨rfl, rfl⟩ hd_X9_cut rfl rfl ⟨Nat.le_of_ble_eq_true rfl, Nat.le_of_ble_eq_true rfl⟩ (Nat.le_of_ble_eq_true rfl) ⟨Nat.zero_le _, Nat.zero_le _⟩ dX9_layRange_425 (fun r425 M425 H locs hw hP hS => ?_)
            refine lv_istore (pc := 428) (lv' := [(12, .int r425), (10, .long x10_288), (8, .long x8_278), (7, .int x7_268), (6, .int x6_259), (5, .int t0), (0, .ref (ad (29, 0, 0, 0))), (2, .int a2), (4, .int x4)]) hx hb dX9_layRange_428 hl (by decide) rfl (fun ls hl => ?_)
            refine lv_iload (pc := 430) hx hb dX9_layRange_430 (lv_at hl 4 rfl) ?_
            refine lv_i2l (pc := 432) hx hb dX9_layRange_432 rfl ?_
            refine lv_lload (pc := 433) hx hb dX9_layRange_433 (lv_at hl 1 rfl) ?_
            refine lv_lmul (pc := 435) hx hb dX9_layRange_435 ?_
            refine r_cSI (pc := 436) (rest := []) (As := [.long ((x6_259.toInt64) * x10_288)]) C hl.1 hP hS (k_X9_cut l G hC  hw) mw_880 mw_881 mw_65 mw_882 ⟨rfl, rfl⟩ hd_X9_cut rfl rfl ⟨Nat.le_of_ble_eq_true rfl, Nat.le_of_ble_eq_true rfl⟩ (Nat.le_of_ble_eq_true rfl) ⟨Nat.zero_le _, Nat.zero_le _⟩ dX9_layRange_436 (fun r436 M436 H locs hw hP hS => ?_)
            refine lv_istore (pc := 439) (lv' := [(13, .int r436), (12, .int r425), (10, .long x10_288), (8, .long x8_278), (7, .int x7_268), (6, .int x6_259), (5, .int t0), (0, .ref (ad (29, 0, 0, 0))), (2, .int a2), (4, .int x4)]) hx hb dX9_layRange_439 hl (by decide) rfl (fun ls hl => ?_)
            refine lv_iload (pc := 441) hx hb dX9_layRange_441 (lv_at hl 4 rfl) ?_
            refine lv_i2l (pc := 443) hx hb dX9_layRange_443 rfl ?_
            refine lv_lload (pc := 444) hx hb dX9_layRange_444 (lv_at hl 3 rfl) ?_
            refine lv_lmul (pc := 446) hx hb dX9_layRange_446 ?_
            refine r_cSI (pc := 447) (rest := []) (As := [.long ((x7_268.toInt64) * x8_278)]) C hl.1 hP hS (k_X9_cut l G hC  hw) mw_880 mw_881 mw_65 mw_882 ⟨rfl, rfl⟩ hd_X9_cut rfl rfl ⟨Nat.le_of_ble_eq_true rfl, Nat.le_of_ble_eq_true rfl⟩ (Nat.le_of_ble_eq_true rfl) ⟨Nat.zero_le _, Nat.zero_le _⟩ dX9_layRange_447 (fun r447 M447 H locs hw hP hS => ?_)
            refine lv_istore (pc := 450) (lv' := [(14, .int r447), (13, .int r436), (12, .int r425), (10, .long x10_288), (8, .long x8_278), (7, .int x7_268), (6, .int x6_259), (5, .int t0), (0, .ref (ad (29, 0, 0, 0))), (2, .int a2), (4, .int x4)]) hx hb dX9_layRange_450 hl (by decide) rfl (fun ls hl => ?_)
            refine lv_iload (pc := 452) hx hb dX9_layRange_452 (lv_at hl 5 rfl) ?_
            refine lv_i2l (pc := 454) hx hb dX9_layRange_454 rfl ?_
            refine lv_lload (pc := 455) hx hb dX9_layRange_455 (lv_at hl 3 rfl) ?_
            refine lv_lmul (pc := 457) hx hb dX9_layRange_457 ?_
            refine r_cSI (pc := 458) (rest := []) (As := [.long ((x7_268.toInt64) * x10_288)]) C hl.1 hP hS (k_X9_cut l G hC  hw) mw_880 mw_881 mw_65 mw_882 ⟨rfl, rfl⟩ hd_X9_cut rfl rfl ⟨Nat.le_of_ble_eq_true rfl, Nat.le_of_ble_eq_true rfl⟩ (Nat.le_of_ble_eq_true rfl) ⟨Nat.zero_le _, Nat.zero_le _⟩ dX9_layRange_458 (fun r458 M458 H locs hw hP hS => ?_)
            refine lv_istore (pc := 461) (lv' := [(15, .int r458), (14, .int r447), (13, .int r436), (12, .int r425), (10, .long x10_288), (8, .long x8_278), (7, .int x7_268), (6, .int x6_259), (5, .int t0), (0, .ref (ad (29, 0, 0, 0))), (2, .int a2), (4, .int x4)]) hx hb dX9_layRange_461 hl (by decide) rfl (fun ls hl => ?_)
            refine lv_iload (pc := 463) hx hb dX9_layRange_463 (lv_at hl 3 rfl) ?_
            refine lv_iload (pc := 465) hx hb dX9_layRange_465 (lv_at hl 2 rfl) ?_
            refine lv_icmp_ge (pc := 467) (tgt := 475) hx hb dX9_layRange_467 (by decide) (fun h => ?_) (fun h => ?_)
            · replace hw := if_t h hw
              refine lv_iload (pc := 475) hx hb dX9_layRange_475 (lv_at hl 2 rfl) ?_
              exact j_X9_layRange_477 C hC h0 r425 r436 r447 r458 r436 M458 _ _ _ hw hP hS (lv_sub hl [9, 10, 3, 2, 1, 0] rfl)
            · replace hw := if_f h hw
              refine lv_iload (pc := 470) hx hb dX9_layRange_470 (lv_at hl 3 rfl) ?_
              refine lv_goto (pc := 472) (tgt := 477) hx hb dX9_layRange_472 (by decide) ?_
              exact j_X9_layRange_477 C hC h0 r425 r436 r447 r458 r425 M458 _ _ _ hw hP hS (lv_sub hl [9, 10, 3, 2, 1, 0] rfl)
          · replace hw := if_f hk3 hw
            by_cases hk4 : (M239.1 (35, 0, 0, 0) a2.toNatClampNeg) = (8 : Int32)
            · replace hw := if_t hk4 hw
              refine lv_tableIn (pc := 296) (tgt := 570) (off := 274) hx hb dX9_layRange_296 (by rw [hk4]; decide) (by rw [hk4]; decide) (by rw [hk4]; rfl) (by decide) ?_
              refine lv_aload_n (pc := 570) hx hb dX9_layRange_570 rfl (lv_at hl 5 rfl) ?_
              refine gf_721 (pc := 571) C hP h0 dX9_layRange_571 ?_
              refine lv_aload_n (pc := 574) hx hb dX9_layRange_574 rfl (lv_at hl 5 rfl) ?_
              refine gf_725 (pc := 575) C hP h0 dX9_layRange_575 ?_
              refine lv_iload_n (pc := 578) hx hb dX9_layRange_578 rfl (lv_at hl 6 rfl) ?_
              refine r_ialdK (pc := 579) (n := 60) (k := a2.toNatClampNeg) C hP (cl_29_9 hC h0) (fun _ _ _ _ => rfl) hw.1 rfl dX9_layRange_579 ?_
              replace hw := hw.2
              refine lv_iconst (pc := 580) (v := (1 : Int32)) hx hb dX9_layRange_580 (by decide) ?_
              refine lv_isub (pc := 581) hx hb dX9_layRange_581 ?_
              refine r_ialdK (pc := 582) (n := 60) (k := ((M239.1 (38, 0, 0, 0) a2.toNatClampNeg) - (1 : Int32)).toNatClampNeg) C hP (cl_29_5 hC h0) (fun _ _ _ _ => rfl) hw.1 rfl dX9_layRange_582 ?_
              replace hw := hw.2
              refine lv_bipush (pc := 583) (v := (48 : Int32)) hx hb dX9_layRange_583 (by decide) ?_
              refine lv_isub (pc := 585) hx hb dX9_layRange_585 ?_
              refine lv_topi (fun x20_586 ex20_586 => ?_)
              replace hw := hw x20_586 ex20_586
              refine lv_istore (pc := 586) (lv' := [(20, .int x20_586), (10, .long x10_288), (8, .long x8_278), (7, .int x7_268), (6, .int x6_259), (5, .int t0), (0, .ref (ad (29, 0, 0, 0))), (2, .int a2), (4, .int x4)]) hx hb dX9_layRange_586 hl (by decide) rfl (fun ls hl => ?_)
              refine lv_iload (pc := 588) hx hb dX9_layRange_588 (lv_at hl 4 rfl) ?_
              refine lv_iload (pc := 590) hx hb dX9_layRange_590 (lv_at hl 0 rfl) ?_
              refine lv_idiv (pc := 592) hx hb dX9_layRange_592 hw.1 ?_
              replace hw := hw.2
              refine lv_iload (pc := 593) hx hb dX9_layRange_593 (lv_at hl 3 rfl) ?_
              refine lv_iload (pc := 595) hx hb dX9_layRange_595 (lv_at hl 0 rfl) ?_
              refine lv_idiv (pc := 597) hx hb dX9_layRange_597 hw.1 ?_
              replace hw := hw.2
              refine lv_icmp_ne (pc := 598) (tgt := 636) hx hb dX9_layRange_598 (by decide) (fun h => ?_) (fun h => ?_)
              · replace hw := if_f h hw
                exact j_X9_layRange_636 C hC h0 x6_259 x7_268 x20_586 M239 _ _ _ hw hP hS (lv_sub hl [6, 7, 4, 3, 0] rfl)
              · replace hw := if_t h hw
                refine lv_iload (pc := 601) hx hb dX9_layRange_601 (lv_at hl 4 rfl) ?_
                refine lv_if_ge (pc := 603) (tgt := 611) hx hb dX9_layRange_603 (by decide) (fun h => ?_) (fun h => ?_)
                · replace hw := if_t h hw
                  refine lv_aload_n (pc := 611) hx hb dX9_layRange_611 rfl (lv_at hl 6 rfl) ?_
                  refine gf_730 (pc := 612) C hP h0 dX9_layRange_612 ?_
                  refine lv_iload_n (pc := 615) hx hb dX9_layRange_615 rfl (lv_at hl 7 rfl) ?_
                  refine lv_iload (pc := 616) hx hb dX9_layRange_616 (lv_at hl 4 rfl) ?_
                  refine lv_iload (pc := 618) hx hb dX9_layRange_618 (lv_at hl 0 rfl) ?_
                  refine lv_irem (pc := 620) hx hb dX9_layRange_620 hw.1 ?_
                  replace hw := hw.2
                  refine r_iastK (pc := 621) (n := 60) (k := a2.toNatClampNeg) C hP hS (cl_29_14 hC h0) (fun _ _ _ _ => rfl) hw.1 rfl dX9_layRange_621 (fun H locs hP hS => ?_)
                  replace hw := hw.2
                  refine lv_aload_n (pc := 622) hx hb dX9_layRange_622 rfl (lv_at hl 6 rfl) ?_
                  refine gf_731 (pc := 623) C hP h0 dX9_layRange_623 ?_
                  refine lv_iload_n (pc := 626) hx hb dX9_layRange_626 rfl (lv_at hl 7 rfl) ?_
                  refine lv_iload (pc := 627) hx hb dX9_layRange_627 (lv_at hl 3 rfl) ?_
                  refine lv_iload (pc := 629) hx hb dX9_layRange_629 (lv_at hl 0 rfl) ?_
                  refine lv_irem (pc := 631) hx hb dX9_layRange_631 hw.1 ?_
                  replace hw := hw.2
                  refine r_iastK (pc := 632) (n := 60) (k := a2.toNatClampNeg) C hP hS (cl_29_15 hC h0) (fun _ _ _ _ => rfl) hw.1 rfl dX9_layRange_632 (fun H locs hP hS => ?_)
                  replace hw := hw.2
                  obtain ⟨M632, eM632⟩ : ∃ z : Mem, z = (mu (mu M239 (43, 0, 0, 0) (a2.toNatClampNeg) (x6_259 - x6_259 / x20_586 * x20_586)) (44, 0, 0, 0) (a2.toNatClampNeg) (x7_268 - x7_268 / x20_586 * x20_586)) := ⟨_, rfl⟩
                  replace hP : wd G I ad M632 H := by rw [eM632]; exact hP
                  replace hw := hw M632 eM632
                  refine lv_goto (pc := 633) (tgt := 778) hx hb dX9_layRange_633 (by decide) ?_
                  exact r_vret (pc := 778) C hP hS hw dX9_layRange_778
                · replace hw := if_f h hw
                  refine lv_iload (pc := 606) hx hb dX9_layRange_606 (lv_at hl 3 rfl) ?_
                  refine lv_if_gt (pc := 608) (tgt := 636) hx hb dX9_layRange_608 (by decide) (fun h => ?_) (fun h => ?_)
                  · replace hw := if_t h hw
                    exact j_X9_layRange_636 C hC h0 x6_259 x7_268 x20_586 M239 _ _ _ hw hP hS (lv_sub hl [6, 7, 4, 3, 0] rfl)
                  · replace hw := if_f h hw
                    refine lv_aload_n (pc := 611) hx hb dX9_layRange_611 rfl (lv_at hl 6 rfl) ?_
                    refine gf_730 (pc := 612) C hP h0 dX9_layRange_612 ?_
                    refine lv_iload_n (pc := 615) hx hb dX9_layRange_615 rfl (lv_at hl 7 rfl) ?_
                    refine lv_iload (pc := 616) hx hb dX9_layRange_616 (lv_at hl 4 rfl) ?_
                    refine lv_iload (pc := 618) hx hb dX9_layRange_618 (lv_at hl 0 rfl) ?_
                    refine lv_irem (pc := 620) hx hb dX9_layRange_620 hw.1 ?_
                    replace hw := hw.2
                    refine r_iastK (pc := 621) (n := 60) (k := a2.toNatClampNeg) C hP hS (cl_29_14 hC h0) (fun _ _ _ _ => rfl) hw.1 rfl dX9_layRange_621 (fun H locs hP hS => ?_)
                    replace hw := hw.2
                    refine lv_aload_n (pc := 622) hx hb dX9_layRange_622 rfl (lv_at hl 6 rfl) ?_
                    refine gf_731 (pc := 623) C hP h0 dX9_layRange_623 ?_
                    refine lv_iload_n (pc := 626) hx hb dX9_layRange_626 rfl (lv_at hl 7 rfl) ?_
                    refine lv_iload (pc := 627) hx hb dX9_layRange_627 (lv_at hl 3 rfl) ?_
                    refine lv_iload (pc := 629) hx hb dX9_layRange_629 (lv_at hl 0 rfl) ?_
                    refine lv_irem (pc := 631) hx hb dX9_layRange_631 hw.1 ?_
                    replace hw := hw.2
                    refine r_iastK (pc := 632) (n := 60) (k := a2.toNatClampNeg) C hP hS (cl_29_15 hC h0) (fun _ _ _ _ => rfl) hw.1 rfl dX9_layRange_632 (fun H locs hP hS => ?_)
                    replace hw := hw.2
                    obtain ⟨M632, eM632⟩ : ∃ z : Mem, z = (mu (mu M239 (43, 0, 0, 0) (a2.toNatClampNeg) (x6_259 - x6_259 / x20_586 * x20_586)) (44, 0, 0, 0) (a2.toNatClampNeg) (x7_268 - x7_268 / x20_586 * x20_586)) := ⟨_, rfl⟩
                    replace hP : wd G I ad M632 H := by rw [eM632]; exact hP
                    replace hw := hw M632 eM632
                    refine lv_goto (pc := 633) (tgt := 778) hx hb dX9_layRange_633 (by decide) ?_
                    exact r_vret (pc := 778) C hP hS hw dX9_layRange_778
            · replace hw := if_f hk4 hw
              refine lv_tableOut (pc := 296) (tgt := 705) hx hb dX9_layRange_296 (by have q0 := lv_neT (a := 4) hk0 rfl; have q1 := lv_neT (a := 5) hk1 rfl; have q2 := lv_neT (a := 6) hk2 rfl; have q3 := lv_neT (a := 7) hk3 rfl; have q4 := lv_neT (a := 8) hk4 rfl; omega) (by decide) ?_
              refine lv_iload (pc := 705) hx hb dX9_layRange_705 (lv_at hl 2 rfl) ?_
              refine lv_iload (pc := 707) hx hb dX9_layRange_707 (lv_at hl 3 rfl) ?_
              refine lv_isub (pc := 709) hx hb dX9_layRange_709 ?_
              refine lv_sipush (pc := 710) (v := (256 : Int32)) hx hb dX9_layRange_710 (by decide) ?_
              refine lv_icmp_ge (pc := 713) (tgt := 733) hx hb dX9_layRange_713 (by decide) (fun h => ?_) (fun h => ?_)
              · replace hw := if_t h hw
                refine lv_iconst (pc := 733) (v := (0 : Int32)) hx hb dX9_layRange_733 (by decide) ?_
                refine lv_istore (pc := 734) (lv' := [(21, .int (0 : Int32)), (10, .long x10_288), (8, .long x8_278), (7, .int x7_268), (6, .int x6_259), (5, .int t0), (0, .ref (ad (29, 0, 0, 0))), (2, .int a2), (4, .int x4)]) hx hb dX9_layRange_734 hl (by decide) rfl (fun ls hl => ?_)
                refine lv_aload_n (pc := 736) hx hb dX9_layRange_736 rfl (lv_at hl 6 rfl) ?_
                refine gf_730 (pc := 737) C hP h0 dX9_layRange_737 ?_
                refine lv_iload_n (pc := 740) hx hb dX9_layRange_740 rfl (lv_at hl 7 rfl) ?_
                refine lv_iload (pc := 741) hx hb dX9_layRange_741 (lv_at hl 0 rfl) ?_
                refine lv_if_eq (pc := 743) (tgt := 754) hx hb dX9_layRange_743 (by decide) (fun h => ?_) (fun h => ?_)
                · replace hw := if_t h hw
                  refine lv_bipush (pc := 754) (v := (-128 : Int32)) hx hb dX9_layRange_754 (by decide) ?_
                  refine r_iastK (pc := 756) (n := 60) (k := a2.toNatClampNeg) C hP hS (cl_29_14 hC h0) (fun _ _ _ _ => rfl) hw.1 rfl dX9_layRange_756 (fun H locs hP hS => ?_)
                  replace hw := hw.2
                  refine lv_aload_n (pc := 757) hx hb dX9_layRange_757 rfl (lv_at hl 6 rfl) ?_
                  refine gf_731 (pc := 758) C hP h0 dX9_layRange_758 ?_
                  refine lv_iload_n (pc := 761) hx hb dX9_layRange_761 rfl (lv_at hl 7 rfl) ?_
                  refine lv_iload (pc := 762) hx hb dX9_layRange_762 (lv_at hl 0 rfl) ?_
                  refine lv_if_eq (pc := 764) (tgt := 775) hx hb dX9_layRange_764 (by decide) (fun h => ?_) (fun h => ?_)
                  · replace hw := if_t h hw
                    refine lv_bipush (pc := 775) (v := (127 : Int32)) hx hb dX9_layRange_775 (by decide) ?_
                    refine r_iastK (pc := 777) (n := 60) (k := a2.toNatClampNeg) C hP hS (cl_29_15 hC h0) (fun _ _ _ _ => rfl) hw.1 rfl dX9_layRange_777 (fun H locs hP hS => ?_)
                    replace hw := hw.2
                    exact r_vret (pc := 778) C hP hS hw dX9_layRange_778
                  · replace hw := if_f h hw
                    refine lv_iload (pc := 767) hx hb dX9_layRange_767 (lv_at hl 3 rfl) ?_
                    refine r_cSI (pc := 769) (rest := [.int a2, .ref (ad (44, 0, 0, 0))]) (As := [.int x7_268]) C hl.1 hP hS (k_X9_byteOf l G hC  hw) mw_887 mw_888 mw_65 mw_889 ⟨rfl, rfl⟩ hd_X9_byteOf rfl rfl ⟨Nat.le_of_ble_eq_true rfl, Nat.le_of_ble_eq_true rfl⟩ (Nat.le_of_ble_eq_true rfl) ⟨Nat.zero_le _, Nat.zero_le _⟩ dX9_layRange_769 (fun r769 M769 H locs hw hP hS => ?_)
                    refine lv_goto (pc := 772) (tgt := 777) hx hb dX9_layRange_772 (by decide) ?_
                    refine r_iastK (pc := 777) (n := 60) (k := a2.toNatClampNeg) C hP hS (cl_29_15 hC h0) (fun _ _ _ _ => rfl) hw.1 rfl dX9_layRange_777 (fun H locs hP hS => ?_)
                    replace hw := hw.2
                    exact r_vret (pc := 778) C hP hS hw dX9_layRange_778
                · replace hw := if_f h hw
                  refine lv_iload (pc := 746) hx hb dX9_layRange_746 (lv_at hl 4 rfl) ?_
                  refine r_cSI (pc := 748) (rest := [.int a2, .ref (ad (43, 0, 0, 0))]) (As := [.int x6_259]) C hl.1 hP hS (k_X9_byteOf l G hC  hw) mw_887 mw_888 mw_65 mw_889 ⟨rfl, rfl⟩ hd_X9_byteOf rfl rfl ⟨Nat.le_of_ble_eq_true rfl, Nat.le_of_ble_eq_true rfl⟩ (Nat.le_of_ble_eq_true rfl) ⟨Nat.zero_le _, Nat.zero_le _⟩ dX9_layRange_748 (fun r748 M748 H locs hw hP hS => ?_)
                  refine lv_goto (pc := 751) (tgt := 756) hx hb dX9_layRange_751 (by decide) ?_
                  refine r_iastK (pc := 756) (n := 60) (k := a2.toNatClampNeg) C hP hS (cl_29_14 hC h0) (fun _ _ _ _ => rfl) hw.1 rfl dX9_layRange_756 (fun H locs hP hS => ?_)
                  replace hw := hw.2
                  refine lv_aload_n (pc := 757) hx hb dX9_layRange_757 rfl (lv_at hl 6 rfl) ?_
                  refine gf_731 (pc := 758) C hP h0 dX9_layRange_758 ?_
                  refine lv_iload_n (pc := 761) hx hb dX9_layRange_761 rfl (lv_at hl 7 rfl) ?_
                  refine lv_iload (pc := 762) hx hb dX9_layRange_762 (lv_at hl 0 rfl) ?_
                  refine lv_if_eq (pc := 764) (tgt := 775) hx hb dX9_layRange_764 (by decide) (fun h => ?_) (fun h => ?_)
                  · replace hw := if_t h hw
                    refine lv_bipush (pc := 775) (v := (127 : Int32)) hx hb dX9_layRange_775 (by decide) ?_
                    refine r_iastK (pc := 777) (n := 60) (k := a2.toNatClampNeg) C hP hS (cl_29_15 hC h0) (fun _ _ _ _ => rfl) hw.1 rfl dX9_layRange_777 (fun H locs hP hS => ?_)
                    replace hw := hw.2
                    exact r_vret (pc := 778) C hP hS hw dX9_layRange_778
                  · replace hw := if_f h hw
                    refine lv_iload (pc := 767) hx hb dX9_layRange_767 (lv_at hl 3 rfl) ?_
                    refine r_cSI (pc := 769) (rest := [.int a2, .ref (ad (44, 0, 0, 0))]) (As := [.int x7_268]) C hl.1 hP hS (k_X9_byteOf l G hC  hw) mw_887 mw_888 mw_65 mw_889 ⟨rfl, rfl⟩ hd_X9_byteOf rfl rfl ⟨Nat.le_of_ble_eq_true rfl, Nat.le_of_ble_eq_true rfl⟩ (Nat.le_of_ble_eq_true rfl) ⟨Nat.zero_le _, Nat.zero_le _⟩ dX9_layRange_769 (fun r769 M769 H locs hw hP hS => ?_)
                    refine lv_goto (pc := 772) (tgt := 777) hx hb dX9_layRange_772 (by decide) ?_
                    refine r_iastK (pc := 777) (n := 60) (k := a2.toNatClampNeg) C hP hS (cl_29_15 hC h0) (fun _ _ _ _ => rfl) hw.1 rfl dX9_layRange_777 (fun H locs hP hS => ?_)
                    replace hw := hw.2
                    exact r_vret (pc := 778) C hP hS hw dX9_layRange_778
              · replace hw := if_f h hw
                refine lv_iload (pc := 716) hx hb dX9_layRange_716 (lv_at hl 3 rfl) ?_
                refine r_cSI (pc := 718) (rest := []) (As := [.int x6_259]) C hl.1 hP hS (k_X9_byteOf l G hC  hw) mw_887 mw_888 mw_65 mw_889 ⟨rfl, rfl⟩ hd_X9_byteOf rfl rfl ⟨Nat.le_of_ble_eq_true rfl, Nat.le_of_ble_eq_true rfl⟩ (Nat.le_of_ble_eq_true rfl) ⟨Nat.zero_le _, Nat.zero_le _⟩ dX9_layRange_718 (fun r718 M718 H locs hw hP hS => ?_)
                refine lv_iload (pc := 721) hx hb dX9_layRange_721 (lv_at hl 2 rfl) ?_
                refine r_cSI (pc := 723) (rest := [.int r718]) (As := [.int x7_268]) C hl.1 hP hS (k_X9_byteOf l G hC  hw) mw_887 mw_888 mw_65 mw_889 ⟨rfl, rfl⟩ hd_X9_byteOf rfl rfl ⟨Nat.le_of_ble_eq_true rfl, Nat.le_of_ble_eq_true rfl⟩ (Nat.le_of_ble_eq_true rfl) ⟨Nat.zero_le _, Nat.zero_le _⟩ dX9_layRange_723 (fun r723 M723 H locs hw hP hS => ?_)
                refine lv_icmp_gt (pc := 726) (tgt := 733) hx hb dX9_layRange_726 (by decide) (fun h => ?_) (fun h => ?_)
                · replace hw := if_t h hw
                  refine lv_iconst (pc := 733) (v := (0 : Int32)) hx hb dX9_layRange_733 (by decide) ?_
                  refine lv_istore (pc := 734) (lv' := [(21, .int (0 : Int32)), (10, .long x10_288), (8, .long x8_278), (7, .int x7_268), (6, .int x6_259), (5, .int t0), (0, .ref (ad (29, 0, 0, 0))), (2, .int a2), (4, .int x4)]) hx hb dX9_layRange_734 hl (by decide) rfl (fun ls hl => ?_)
                  refine lv_aload_n (pc := 736) hx hb dX9_layRange_736 rfl (lv_at hl 6 rfl) ?_
                  refine gf_730 (pc := 737) C hP h0 dX9_layRange_737 ?_
                  refine lv_iload_n (pc := 740) hx hb dX9_layRange_740 rfl (lv_at hl 7 rfl) ?_
                  refine lv_iload (pc := 741) hx hb dX9_layRange_741 (lv_at hl 0 rfl) ?_
                  refine lv_if_eq (pc := 743) (tgt := 754) hx hb dX9_layRange_743 (by decide) (fun h => ?_) (fun h => ?_)
                  · replace hw := if_t h hw
                    refine lv_bipush (pc := 754) (v := (-128 : Int32)) hx hb dX9_layRange_754 (by decide) ?_
                    refine r_iastK (pc := 756) (n := 60) (k := a2.toNatClampNeg) C hP hS (cl_29_14 hC h0) (fun _ _ _ _ => rfl) hw.1 rfl dX9_layRange_756 (fun H locs hP hS => ?_)
                    replace hw := hw.2
                    refine lv_aload_n (pc := 757) hx hb dX9_layRange_757 rfl (lv_at hl 6 rfl) ?_
                    refine gf_731 (pc := 758) C hP h0 dX9_layRange_758 ?_
                    refine lv_iload_n (pc := 761) hx hb dX9_layRange_761 rfl (lv_at hl 7 rfl) ?_
                    refine lv_iload (pc := 762) hx hb dX9_layRange_762 (lv_at hl 0 rfl) ?_
                    refine lv_if_eq (pc := 764) (tgt := 775) hx hb dX9_layRange_764 (by decide) (fun h => ?_) (fun h => ?_)
                    · replace hw := if_t h hw
                      refine lv_bipush (pc := 775) (v := (127 : Int32)) hx hb dX9_layRange_775 (by decide) ?_
                      refine r_iastK (pc := 777) (n := 60) (k := a2.toNatClampNeg) C hP hS (cl_29_15 hC h0) (fun _ _ _ _ => rfl) hw.1 rfl dX9_layRange_777 (fun H locs hP hS => ?_)
                      replace hw := hw.2
                      exact r_vret (pc := 778) C hP hS hw dX9_layRange_778
                    · replace hw := if_f h hw
                      refine lv_iload (pc := 767) hx hb dX9_layRange_767 (lv_at hl 3 rfl) ?_
                      refine r_cSI (pc := 769) (rest := [.int a2, .ref (ad (44, 0, 0, 0))]) (As := [.int x7_268]) C hl.1 hP hS (k_X9_byteOf l G hC  hw) mw_887 mw_888 mw_65 mw_889 ⟨rfl, rfl⟩ hd_X9_byteOf rfl rfl ⟨Nat.le_of_ble_eq_true rfl, Nat.le_of_ble_eq_true rfl⟩ (Nat.le_of_ble_eq_true rfl) ⟨Nat.zero_le _, Nat.zero_le _⟩ dX9_layRange_769 (fun r769 M769 H locs hw hP hS => ?_)
                      refine lv_goto (pc := 772) (tgt := 777) hx hb dX9_layRange_772 (by decide) ?_
                      refine r_iastK (pc := 777) (n := 60) (k := a2.toNatClampNeg) C hP hS (cl_29_15 hC h0) (fun _ _ _ _ => rfl) hw.1 rfl dX9_layRange_777 (fun H locs hP hS => ?_)
                      replace hw := hw.2
                      exact r_vret (pc := 778) C hP hS hw dX9_layRange_778
                  · replace hw := if_f h hw
                    refine lv_iload (pc := 746) hx hb dX9_layRange_746 (lv_at hl 4 rfl) ?_
                    refine r_cSI (pc := 748) (rest := [.int a2, .ref (ad (43, 0, 0, 0))]) (As := [.int x6_259]) C hl.1 hP hS (k_X9_byteOf l G hC  hw) mw_887 mw_888 mw_65 mw_889 ⟨rfl, rfl⟩ hd_X9_byteOf rfl rfl ⟨Nat.le_of_ble_eq_true rfl, Nat.le_of_ble_eq_true rfl⟩ (Nat.le_of_ble_eq_true rfl) ⟨Nat.zero_le _, Nat.zero_le _⟩ dX9_layRange_748 (fun r748 M748 H locs hw hP hS => ?_)
                    refine lv_goto (pc := 751) (tgt := 756) hx hb dX9_layRange_751 (by decide) ?_
                    refine r_iastK (pc := 756) (n := 60) (k := a2.toNatClampNeg) C hP hS (cl_29_14 hC h0) (fun _ _ _ _ => rfl) hw.1 rfl dX9_layRange_756 (fun H locs hP hS => ?_)
                    replace hw := hw.2
                    refine lv_aload_n (pc := 757) hx hb dX9_layRange_757 rfl (lv_at hl 6 rfl) ?_
                    refine gf_731 (pc := 758) C hP h0 dX9_layRange_758 ?_
                    refine lv_iload_n (pc := 761) hx hb dX9_layRange_761 rfl (lv_at hl 7 rfl) ?_
                    refine lv_iload (pc := 762) hx hb dX9_layRange_762 (lv_at hl 0 rfl) ?_
                    refine lv_if_eq (pc := 764) (tgt := 775) hx hb dX9_layRange_764 (by decide) (fun h => ?_) (fun h => ?_)
                    · replace hw := if_t h hw
                      refine lv_bipush (pc := 775) (v := (127 : Int32)) hx hb dX9_layRange_775 (by decide) ?_
                      refine r_iastK (pc := 777) (n := 60) (k := a2.toNatClampNeg) C hP hS (cl_29_15 hC h0) (fun _ _ _ _ => rfl) hw.1 rfl dX9_layRange_777 (fun H locs hP hS => ?_)
                      replace hw := hw.2
                      exact r_vret (pc := 778) C hP hS hw dX9_layRange_778
                    · replace hw := if_f h hw
                      refine lv_iload (pc := 767) hx hb dX9_layRange_767 (lv_at hl 3 rfl) ?_
                      refine r_cSI (pc := 769) (rest := [.int a2, .ref (ad (44, 0, 0, 0))]) (As := [.int x7_268]) C hl.1 hP hS (k_X9_byteOf l G hC  hw) mw_887 mw_888 mw_65 mw_889 ⟨rfl, rfl⟩ hd_X9_byteOf rfl rfl ⟨Nat.le_of_ble_eq_true rfl, Nat.le_of_ble_eq_true rfl⟩ (Nat.le_of_ble_eq_true rfl) ⟨Nat.zero_le _, Nat.zero_le _⟩ dX9_layRange_769 (fun r769 M769 H locs hw hP hS => ?_)
                      refine lv_goto (pc := 772) (tgt := 777) hx hb dX9_layRange_772 (by decide) ?_
                      refine r_iastK (pc := 777) (n := 60) (k := a2.toNatClampNeg) C hP hS (cl_29_15 hC h0) (fun _ _ _ _ => rfl) hw.1 rfl dX9_layRange_777 (fun H locs hP hS => ?_)
                      replace hw := hw.2
                      exact r_vret (pc := 778) C hP hS hw dX9_layRange_778
                · replace hw := if_f h hw
                  refine lv_iconst (pc := 729) (v := (1 : Int32)) hx hb dX9_layRange_729 (by decide) ?_
                  refine lv_goto (pc := 730) (tgt := 734) hx hb dX9_layRange_730 (by decide) ?_
                  refine lv_istore (pc := 734) (lv' := [(21, .int (1 : Int32)), (10, .long x10_288), (8, .long x8_278), (7, .int x7_268), (6, .int x6_259), (5, .int t0), (0, .ref (ad (29, 0, 0, 0))), (2, .int a2), (4, .int x4)]) hx hb dX9_layRange_734 hl (by decide) rfl (fun ls hl => ?_)
                  refine lv_aload_n (pc := 736) hx hb dX9_layRange_736 rfl (lv_at hl 6 rfl) ?_
                  refine gf_730 (pc := 737) C hP h0 dX9_layRange_737 ?_
                  refine lv_iload_n (pc := 740) hx hb dX9_layRange_740 rfl (lv_at hl 7 rfl) ?_
                  refine lv_iload (pc := 741) hx hb dX9_layRange_741 (lv_at hl 0 rfl) ?_
                  refine lv_if_eq (pc := 743) (tgt := 754) hx hb dX9_layRange_743 (by decide) (fun h => ?_) (fun h => ?_)
                  · replace hw := if_t h hw
                    refine lv_bipush (pc := 754) (v := (-128 : Int32)) hx hb dX9_layRange_754 (by decide) ?_
                    refine r_iastK (pc := 756) (n := 60) (k := a2.toNatClampNeg) C hP hS (cl_29_14 hC h0) (fun _ _ _ _ => rfl) hw.1 rfl dX9_layRange_756 (fun H locs hP hS => ?_)
                    replace hw := hw.2
                    refine lv_aload_n (pc := 757) hx hb dX9_layRange_757 rfl (lv_at hl 6 rfl) ?_
                    refine gf_731 (pc := 758) C hP h0 dX9_layRange_758 ?_
                    refine lv_iload_n (pc := 761) hx hb dX9_layRange_761 rfl (lv_at hl 7 rfl) ?_
                    refine lv_iload (pc := 762) hx hb dX9_layRange_762 (lv_at hl 0 rfl) ?_
                    refine lv_if_eq (pc := 764) (tgt := 775) hx hb dX9_layRange_764 (by decide) (fun h => ?_) (fun h => ?_)
                    · replace hw := if_t h hw
                      refine lv_bipush (pc := 775) (v := (127 : Int32)) hx hb dX9_layRange_775 (by decide) ?_
                      refine r_iastK (pc := 777) (n := 60) (k := a2.toNatClampNeg) C hP hS (cl_29_15 hC h0) (fun _ _ _ _ => rfl) hw.1 rfl dX9_layRange_777 (fun H locs hP hS => ?_)
                      replace hw := hw.2
                      exact r_vret (pc := 778) C hP hS hw dX9_layRange_778
                    · replace hw := if_f h hw
                      refine lv_iload (pc := 767) hx hb dX9_layRange_767 (lv_at hl 3 rfl) ?_
                      refine r_cSI (pc := 769) (rest := [.int a2, .ref (ad (44, 0, 0, 0))]) (As := [.int x7_268]) C hl.1 hP hS (k_X9_byteOf l G hC  hw) mw_887 mw_888 mw_65 mw_889 ⟨rfl, rfl⟩ hd_X9_byteOf rfl rfl ⟨Nat.le_of_ble_eq_true rfl, Nat.le_of_ble_eq_true rfl⟩ (Nat.le_of_ble_eq_true rfl) ⟨Nat.zero_le _, Nat.zero_le _⟩ dX9_layRange_769 (fun r769 M769 H locs hw hP hS => ?_)
                      refine lv_goto (pc := 772) (tgt := 777) hx hb dX9_layRange_772 (by decide) ?_
                      refine r_iastK (pc := 777) (n := 60) (k := a2.toNatClampNeg) C hP hS (cl_29_15 hC h0) (fun _ _ _ _ => rfl) hw.1 rfl dX9_layRange_777 (fun H locs hP hS => ?_)
                      replace hw := hw.2
                      exact r_vret (pc := 778) C hP hS hw dX9_layRange_778
                  · replace hw := if_f h hw
                    refine lv_iload (pc := 746) hx hb dX9_layRange_746 (lv_at hl 4 rfl) ?_
                    refine r_cSI (pc := 748) (rest := [.int a2, .ref (ad (43, 0, 0, 0))]) (As := [.int x6_259]) C hl.1 hP hS (k_X9_byteOf l G hC  hw) mw_887 mw_888 mw_65 mw_889 ⟨rfl, rfl⟩ hd_X9_byteOf rfl rfl ⟨Nat.le_of_ble_eq_true rfl, Nat.le_of_ble_eq_true rfl⟩ (Nat.le_of_ble_eq_true rfl) ⟨Nat.zero_le _, Nat.zero_le _⟩ dX9_layRange_748 (fun r748 M748 H locs hw hP hS => ?_)
                    refine lv_goto (pc := 751) (tgt := 756) hx hb dX9_layRange_751 (by decide) ?_
                    refine r_iastK (pc := 756) (n := 60) (k := a2.toNatClampNeg) C hP hS (cl_29_14 hC h0) (fun _ _ _ _ => rfl) hw.1 rfl dX9_layRange_756 (fun H locs hP hS => ?_)
                    replace hw := hw.2
                    refine lv_aload_n (pc := 757) hx hb dX9_layRange_757 rfl (lv_at hl 6 rfl) ?_
                    refine gf_731 (pc := 758) C hP h0 dX9_layRange_758 ?_
                    refine lv_iload_n (pc := 761) hx hb dX9_layRange_761 rfl (lv_at hl 7 rfl) ?_
                    refine lv_iload (pc := 762) hx hb dX9_layRange_762 (lv_at hl 0 rfl) ?_
                    refine lv_if_eq (pc := 764) (tgt := 775) hx hb dX9_layRange_764 (by decide) (fun h => ?_) (fun h => ?_)
                    · replace hw := if_t h hw
                      refine lv_bipush (pc := 775) (v := (127 : Int32)) hx hb dX9_layRange_775 (by decide) ?_
                      refine r_iastK (pc := 777) (n := 60) (k := a2.toNatClampNeg) C hP hS (cl_29_15 hC h0) (fun _ _ _ _ => rfl) hw.1 rfl dX9_layRange_777 (fun H locs hP hS => ?_)
                      replace hw := hw.2
                      exact r_vret (pc := 778) C hP hS hw dX9_layRange_778
                    · replace hw := if_f h hw
                      refine lv_iload (pc := 767) hx hb dX9_layRange_767 (lv_at hl 3 rfl) ?_
                      refine r_cSI (pc := 769) (rest := [.int a2, .ref (ad (44, 0, 0, 0))]) (As := [.int x7_268]) C hl.1 hP hS (k_X9_byteOf l G hC  hw) mw_887 mw_888 mw_65 mw_889 ⟨rfl, rfl⟩ hd_X9_byteOf rfl rfl ⟨Nat.le_of_ble_eq_true rfl, Nat.le_of_ble_eq_true rfl⟩ (Nat.le_of_ble_eq_true rfl) ⟨Nat.zero_le _, Nat.zero_le _⟩ dX9_layRange_769 (fun r769 M769 H locs hw hP hS => ?_)
                      refine lv_goto (pc := 772) (tgt := 777) hx hb dX9_layRange_772 (by decide) ?_
                      refine r_iastK (pc := 777) (n := 60) (k := a2.toNatClampNeg) C hP hS (cl_29_15 hC h0) (fun _ _ _ _ => rfl) hw.1 rfl dX9_layRange_777 (fun H locs hP hS => ?_)
                      replace hw := hw.2
                      exact r_vret (pc := 778) C hP hS hw dX9_layRange_778
  · replace hw := if_t h hw
    exact r_vret (pc := 251) C hP hS hw dX9_layRange_251
set_option maxHeartbeats 4000000 in
set_option maxRecDepth 100000 in
theorem j_X9_layRange_70 {a1 : Int32} {a2 : Int32} (C : cx p s m args meth c cX9_layRange 22 none RX9 G) (hC : clo I) (h0 : I (29, 0, 0, 0)) {Q : Mem → Prop} : ∀ (x4 : Int32) (t0 : Int32) (t1 : Int32) (M : Mem) (H : Heap) (locs : List Loc) (ls : Array Slot), w_X9_layRange_70 a1 a2 Q x4 t0 t1 M → wd G I ad M H → va_S (fA I ad) s.heap H locs → lv_has ls 22 [(0, .ref (ad (29, 0, 0, 0))), (2, .int a2), (4, .int x4)] → I (42, 0, 0, 0) → W p l e rm_X9_layRange s m args below meth c H locs 0 0 (MQ below (qV G I ad Q) args s 0 0 (fA I ad)) (F0 m 70 ls [.int t0, .int t1, .ref (ad (42, 0, 0, 0))]) := by
  have hx := C.1
  have hb := C.2.1
  have hown := C.2.2.2.1
  have hts := C.2.2.2.2.1
  intro x4 t0 t1 M H locs ls hw hP hS hl ht2
  unfold w_X9_layRange_70 at hw
  refine lv_aload_n (pc := 70) hx hb dX9_layRange_70 rfl (lv_at hl 0 rfl) ?_
  refine gf_718 (pc := 71) C hP h0 dX9_layRange_71 ?_
  refine lv_iload (pc := 74) hx hb dX9_layRange_74 (lv_at hl 2 rfl) ?_
  refine lv_iconst (pc := 76) (v := (2 : Int32)) hx hb dX9_layRange_76 (by decide) ?_
  refine lv_iadd (pc := 77) hx hb dX9_layRange_77 ?_
  refine r_ialdK (pc := 78) (n := 288) (k := (x4 + (2 : Int32)).toNatClampNeg) C hP (cl_29_2 hC h0) (fun _ _ _ _ => rfl) hw.1 rfl dX9_layRange_78 ?_
  replace hw := hw.2
  refine lv_if_le (pc := 79) (tgt := 86) hx hb dX9_layRange_79 (by decide) (fun h => ?_) (fun h => ?_)
  · replace hw := if_t h hw
    refine lv_iconst (pc := 86) (v := (0 : Int32)) hx hb dX9_layRange_86 (by decide) ?_
    refine lv_iadd (pc := 87) hx hb dX9_layRange_87 ?_
    refine r_iastK (pc := 88) (n := 60) (k := t1.toNatClampNeg) C hP hS ht2 (fun _ _ _ _ => rfl) hw.1 rfl dX9_layRange_88 (fun H locs hP hS => ?_)
    replace hw := hw.2
    refine lv_aload_n (pc := 89) hx hb dX9_layRange_89 rfl (lv_at hl 0 rfl) ?_
    refine gf_730 (pc := 90) C hP h0 dX9_layRange_90 ?_
    refine lv_iload_n (pc := 93) hx hb dX9_layRange_93 rfl (lv_at hl 1 rfl) ?_
    refine lv_aload_n (pc := 94) hx hb dX9_layRange_94 rfl (lv_at hl 0 rfl) ?_
    refine gf_718 (pc := 95) C hP h0 dX9_layRange_95 ?_
    refine lv_iload (pc := 98) hx hb dX9_layRange_98 (lv_at hl 2 rfl) ?_
    refine r_ialdK (pc := 100) (n := 288) (k := x4.toNatClampNeg) C hP (cl_29_2 hC h0) (fun _ _ _ _ => rfl) hw.1 rfl dX9_layRange_100 ?_
    replace hw := hw.2
    refine r_iastK (pc := 101) (n := 60) (k := a2.toNatClampNeg) C hP hS (cl_29_14 hC h0) (fun _ _ _ _ => rfl) hw.1 rfl dX9_layRange_101 (fun H locs hP hS => ?_)
    replace hw := hw.2
    obtain ⟨M101, eM101⟩ : ∃ z : Mem, z = (mu (mu M (42, 0, 0, 0) (t1.toNatClampNeg) (t0 + (0 : Int32))) (43, 0, 0, 0) (a2.toNatClampNeg) ((mu M (42, 0, 0, 0) (t1.toNatClampNeg) (t0 + (0 : Int32))).1 (32, 0, 0, 0) x4.toNatClampNeg)) := ⟨_, rfl⟩
    replace hP : wd G I ad M101 H := by rw [eM101]; exact hP
    replace hw := hw M101 eM101
    refine lv_aload_n (pc := 102) hx hb dX9_layRange_102 rfl (lv_at hl 0 rfl) ?_
    refine gf_731 (pc := 103) C hP h0 dX9_layRange_103 ?_
    refine lv_iload_n (pc := 106) hx hb dX9_layRange_106 rfl (lv_at hl 1 rfl) ?_
    refine lv_aload_n (pc := 107) hx hb dX9_layRange_107 rfl (lv_at hl 0 rfl) ?_
    refine gf_718 (pc := 108) C hP h0 dX9_layRange_108 ?_
    refine lv_iload (pc := 111) hx hb dX9_layRange_111 (lv_at hl 2 rfl) ?_
    refine lv_iconst (pc := 113) (v := (1 : Int32)) hx hb dX9_layRange_113 (by decide) ?_
    refine lv_iadd (pc := 114) hx hb dX9_layRange_114 ?_
    refine r_ialdK (pc := 115) (n := 288) (k := (x4 + (1 : Int32)).toNatClampNeg) C hP (cl_29_2 hC h0) (fun _ _ _ _ => rfl) hw.1 rfl dX9_layRange_115 ?_
    replace hw := hw.2
    refine r_iastK (pc := 116) (n := 60) (k := a2.toNatClampNeg) C hP hS (cl_29_15 hC h0) (fun _ _ _ _ => rfl) hw.1 rfl dX9_layRange_116 (fun H locs hP hS => ?_)
    replace hw := hw.2
    refine lv_goto (pc := 117) (tgt := 172) hx hb dX9_layRange_117 (by decide) ?_
    exact r_vret (pc := 172) C hP hS hw dX9_layRange_172
  · replace hw := if_f h hw
    refine lv_iconst (pc := 82) (v := (2 : Int32)) hx hb dX9_layRange_82 (by decide) ?_
    refine lv_goto (pc := 83) (tgt := 87) hx hb dX9_layRange_83 (by decide) ?_
    refine lv_iadd (pc := 87) hx hb dX9_layRange_87 ?_
    refine r_iastK (pc := 88) (n := 60) (k := t1.toNatClampNeg) C hP hS ht2 (fun _ _ _ _ => rfl) hw.1 rfl dX9_layRange_88 (fun H locs hP hS => ?_)
    replace hw := hw.2
    refine lv_aload_n (pc := 89) hx hb dX9_layRange_89 rfl (lv_at hl 0 rfl) ?_
    refine gf_730 (pc := 90) C hP h0 dX9_layRange_90 ?_
    refine lv_iload_n (pc := 93) hx hb dX9_layRange_93 rfl (lv_at hl 1 rfl) ?_
    refine lv_aload_n (pc := 94) hx hb dX9_layRange_94 rfl (lv_at hl 0 rfl) ?_
    refine gf_718 (pc := 95) C hP h0 dX9_layRange_95 ?_
    refine lv_iload (pc := 98) hx hb dX9_layRange_98 (lv_at hl 2 rfl) ?_
    refine r_ialdK (pc := 100) (n := 288) (k := x4.toNatClampNeg) C hP (cl_29_2 hC h0) (fun _ _ _ _ => rfl) hw.1 rfl dX9_layRange_100 ?_
    replace hw := hw.2
    refine r_iastK (pc := 101) (n := 60) (k := a2.toNatClampNeg) C hP hS (cl_29_14 hC h0) (fun _ _ _ _ => rfl) hw.1 rfl dX9_layRange_101 (fun H locs hP hS => ?_)
    replace hw := hw.2
    obtain ⟨M101, eM101⟩ : ∃ z : Mem, z = (mu (mu M (42, 0, 0, 0) (t1.toNatClampNeg) (t0 + (2 : Int32))) (43, 0, 0, 0) (a2.toNatClampNeg) ((mu M (42, 0, 0, 0) (t1.toNatClampNeg) (t0 + (2 : Int32))).1 (32, 0, 0, 0) x4.toNatClampNeg)) := ⟨_, rfl⟩
    replace hP : wd G I ad M101 H := by rw [eM101]; exact hP
    replace hw := hw M101 eM101
    refine lv_aload_n (pc := 102) hx hb dX9_layRange_102 rfl (lv_at hl 0 rfl) ?_
    refine gf_731 (pc := 103) C hP h0 dX9_layRange_103 ?_
    refine lv_iload_n (pc := 106) hx hb dX9_layRange_106 rfl (lv_at hl 1 rfl) ?_
    refine lv_aload_n (pc := 107) hx hb dX9_layRange_107 rfl (lv_at hl 0 rfl) ?_
    refine gf_718 (pc := 108) C hP h0 dX9_layRange_108 ?_
    refine lv_iload (pc := 111) hx hb dX9_layRange_111 (lv_at hl 2 rfl) ?_
    refine lv_iconst (pc := 113) (v := (1 : Int32)) hx hb dX9_layRange_113 (by decide) ?_
    refine lv_iadd (pc := 114) hx hb dX9_layRange_114 ?_
    refine r_ialdK (pc := 115) (n := 288) (k := (x4 + (1 : Int32)).toNatClampNeg) C hP (cl_29_2 hC h0) (fun _ _ _ _ => rfl) hw.1 rfl dX9_layRange_115 ?_
    replace hw := hw.2
    refine r_iastK (pc := 116) (n := 60) (k := a2.toNatClampNeg) C hP hS (cl_29_15 hC h0) (fun _ _ _ _ => rfl) hw.1 rfl dX9_layRange_116 (fun H locs hP hS => ?_)
    replace hw := hw.2
    refine lv_goto (pc := 117) (tgt := 172) hx hb dX9_layRange_117 (by decide) ?_
    exact r_vret (pc := 172) C hP hS hw dX9_layRange_172
set_option maxHeartbeats 4000000 in
set_option maxRecDepth 100000 in
theorem j_X9_layRange_0 {a1 : Int32} {a2 : Int32} (C : cx p s m args meth c cX9_layRange 22 none RX9 G) (hC : clo I) (h0 : I (29, 0, 0, 0)) {Q : Mem → Prop} : ∀ (M : Mem) (H : Heap) (locs : List Loc) (ls : Array Slot), w_X9_layRange a1 a2 Q M → wd G I ad M H → va_S (fA I ad) s.heap H locs → lv_has ls 22 [(0, .ref (ad (29, 0, 0, 0))), (1, .int a1), (2, .int a2)] → W p l e rm_X9_layRange s m args below meth c H locs 0 0 (MQ below (qV G I ad Q) args s 0 0 (fA I ad)) (F0 m 0 ls []) := by
  have hx := C.1
  have hb := C.2.1
  have hown := C.2.2.2.1
  have hts := C.2.2.2.2.1
  intro M H locs ls hw hP hS hl
  unfold w_X9_layRange at hw
  refine lv_aload_n (pc := 0) hx hb dX9_layRange_0 rfl (lv_at hl 0 rfl) ?_
  refine gf_722 (pc := 1) C hP h0 dX9_layRange_1 ?_
  refine lv_iload_n (pc := 4) hx hb dX9_layRange_4 rfl (lv_at hl 2 rfl) ?_
  refine r_ialdK (pc := 5) (n := 60) (k := a2.toNatClampNeg) C hP (cl_29_6 hC h0) (fun _ _ _ _ => rfl) hw.1 rfl dX9_layRange_5 ?_
  replace hw := hw.2
  refine r_cSI (pc := 6) (rest := []) (As := [.int (M.1 (35, 0, 0, 0) a2.toNatClampNeg)]) C hl.1 hP hS (k_X9_inner l G hC  hw) mw_853 mw_854 mw_65 mw_855 ⟨rfl, rfl⟩ hd_X9_inner rfl rfl ⟨Nat.le_of_ble_eq_true rfl, Nat.le_of_ble_eq_true rfl⟩ (Nat.le_of_ble_eq_true rfl) ⟨Nat.zero_le _, Nat.zero_le _⟩ dX9_layRange_6 (fun r6 M6 H locs hw hP hS => ?_)
  refine lv_istore_n (pc := 9) (lv' := [(3, .int r6), (0, .ref (ad (29, 0, 0, 0))), (1, .int a1), (2, .int a2)]) hx hb dX9_layRange_9 rfl hl (by decide) rfl (fun ls hl => ?_)
  refine lv_iload_n (pc := 10) hx hb dX9_layRange_10 rfl (lv_at hl 0 rfl) ?_
  refine lv_if_ne (pc := 11) (tgt := 173) hx hb dX9_layRange_11 (by decide) (fun h => ?_) (fun h => ?_)
  · replace hw := if_f h hw
    refine lv_aload_n (pc := 173) hx hb dX9_layRange_173 rfl (lv_at hl 1 rfl) ?_
    refine gf_723 (pc := 174) C hP h0 dX9_layRange_174 ?_
    refine lv_iload_n (pc := 177) hx hb dX9_layRange_177 rfl (lv_at hl 3 rfl) ?_
    refine r_ialdK (pc := 178) (n := 60) (k := a2.toNatClampNeg) C hP (cl_29_7 hC h0) (fun _ _ _ _ => rfl) hw.1 rfl dX9_layRange_178 ?_
    replace hw := hw.2
    refine lv_topi (fun x4_179 ex4_179 => ?_)
    replace hw := hw x4_179 ex4_179
    refine lv_istore (pc := 179) (lv' := [(4, .int x4_179), (3, .int r6), (0, .ref (ad (29, 0, 0, 0))), (1, .int a1), (2, .int a2)]) hx hb dX9_layRange_179 hl (by decide) rfl (fun ls hl => ?_)
    refine lv_iload_n (pc := 181) hx hb dX9_layRange_181 rfl (lv_at hl 1 rfl) ?_
    refine lv_iconst (pc := 182) (v := (1 : Int32)) hx hb dX9_layRange_182 (by decide) ?_
    refine lv_icmp_le (pc := 183) (tgt := 195) hx hb dX9_layRange_183 (by decide) (fun h => ?_) (fun h => ?_)
    · replace hw := if_t h hw
      refine lv_iload (pc := 195) hx hb dX9_layRange_195 (lv_at hl 0 rfl) ?_
      exact j_X9_layRange_197 C hC h0 x4_179 x4_179 M6 _ _ _ hw hP hS (lv_sub hl [2, 4, 0] rfl)
    · replace hw := if_f h hw
      refine lv_aload_n (pc := 186) hx hb dX9_layRange_186 rfl (lv_at hl 2 rfl) ?_
      refine gf_724 (pc := 187) C hP h0 dX9_layRange_187 ?_
      refine lv_iload_n (pc := 190) hx hb dX9_layRange_190 rfl (lv_at hl 4 rfl) ?_
      refine r_ialdK (pc := 191) (n := 60) (k := a2.toNatClampNeg) C hP (cl_29_8 hC h0) (fun _ _ _ _ => rfl) hw.1 rfl dX9_layRange_191 ?_
      replace hw := hw.2
      refine lv_goto (pc := 192) (tgt := 197) hx hb dX9_layRange_192 (by decide) ?_
      exact j_X9_layRange_197 C hC h0 x4_179 (M6.1 (37, 0, 0, 0) a2.toNatClampNeg) M6 _ _ _ hw hP hS (lv_sub hl [2, 4, 0] rfl)
  · replace hw := if_t h hw
    refine lv_aload_n (pc := 14) hx hb dX9_layRange_14 rfl (lv_at hl 1 rfl) ?_
    refine gf_722 (pc := 15) C hP h0 dX9_layRange_15 ?_
    refine lv_iload_n (pc := 18) hx hb dX9_layRange_18 rfl (lv_at hl 3 rfl) ?_
    refine r_ialdK (pc := 19) (n := 60) (k := a2.toNatClampNeg) C hP (cl_29_6 hC h0) (fun _ _ _ _ => rfl) hw.1 rfl dX9_layRange_19 ?_
    replace hw := hw.2
    refine lv_iconst (pc := 20) (v := (1 : Int32)) hx hb dX9_layRange_20 (by decide) ?_
    refine lv_icmp_ne (pc := 21) (tgt := 120) hx hb dX9_layRange_21 (by decide) (fun h => ?_) (fun h => ?_)
    · replace hw := if_f h hw
      refine lv_aload_n (pc := 120) hx hb dX9_layRange_120 rfl (lv_at hl 1 rfl) ?_
      refine gf_729 (pc := 121) C hP h0 dX9_layRange_121 ?_
      refine lv_iload_n (pc := 124) hx hb dX9_layRange_124 rfl (lv_at hl 3 rfl) ?_
      refine lv_iconst (pc := 125) (v := (1 : Int32)) hx hb dX9_layRange_125 (by decide) ?_
      refine r_iastK (pc := 126) (n := 60) (k := a2.toNatClampNeg) C hP hS (cl_29_13 hC h0) (fun _ _ _ _ => rfl) hw.1 rfl dX9_layRange_126 (fun H locs hP hS => ?_)
      replace hw := hw.2
      refine lv_aload_n (pc := 127) hx hb dX9_layRange_127 rfl (lv_at hl 1 rfl) ?_
      refine gf_730 (pc := 128) C hP h0 dX9_layRange_128 ?_
      refine lv_iload_n (pc := 131) hx hb dX9_layRange_131 rfl (lv_at hl 3 rfl) ?_
      refine lv_aload_n (pc := 132) hx hb dX9_layRange_132 rfl (lv_at hl 1 rfl) ?_
      refine gf_722 (pc := 133) C hP h0 dX9_layRange_133 ?_
      refine lv_iload_n (pc := 136) hx hb dX9_layRange_136 rfl (lv_at hl 3 rfl) ?_
      refine r_ialdK (pc := 137) (n := 60) (k := a2.toNatClampNeg) C hP (cl_29_6 hC h0) (fun _ _ _ _ => rfl) hw.1 rfl dX9_layRange_137 ?_
      replace hw := hw.2
      refine lv_iconst (pc := 138) (v := (3 : Int32)) hx hb dX9_layRange_138 (by decide) ?_
      refine lv_icmp_ne (pc := 139) (tgt := 150) hx hb dX9_layRange_139 (by decide) (fun h => ?_) (fun h => ?_)
      · replace hw := if_f h hw
        refine lv_aload_n (pc := 150) hx hb dX9_layRange_150 rfl (lv_at hl 1 rfl) ?_
        refine gf_721 (pc := 151) C hP h0 dX9_layRange_151 ?_
        refine lv_iload_n (pc := 154) hx hb dX9_layRange_154 rfl (lv_at hl 3 rfl) ?_
        refine r_ialdK (pc := 155) (n := 60) (k := a2.toNatClampNeg) C hP (cl_29_5 hC h0) (fun _ _ _ _ => rfl) hw.1 rfl dX9_layRange_155 ?_
        replace hw := hw.2
        refine lv_bipush (pc := 156) (v := (48 : Int32)) hx hb dX9_layRange_156 (by decide) ?_
        refine lv_isub (pc := 158) hx hb dX9_layRange_158 ?_
        refine r_iastK (pc := 159) (n := 60) (k := a2.toNatClampNeg) C hP hS (cl_29_14 hC h0) (fun _ _ _ _ => rfl) hw.1 rfl dX9_layRange_159 (fun H locs hP hS => ?_)
        replace hw := hw.2
        obtain ⟨M159, eM159⟩ : ∃ z : Mem, z = (mu (mu M6 (42, 0, 0, 0) (a2.toNatClampNeg) (1 : Int32)) (43, 0, 0, 0) (a2.toNatClampNeg) (((mu M6 (42, 0, 0, 0) (a2.toNatClampNeg) (1 : Int32)).1 (34, 0, 0, 0) a2.toNatClampNeg) - (48 : Int32))) := ⟨_, rfl⟩
        replace hP : wd G I ad M159 H := by rw [eM159]; exact hP
        replace hw := hw M159 eM159
        refine lv_aload_n (pc := 160) hx hb dX9_layRange_160 rfl (lv_at hl 1 rfl) ?_
        refine gf_731 (pc := 161) C hP h0 dX9_layRange_161 ?_
        refine lv_iload_n (pc := 164) hx hb dX9_layRange_164 rfl (lv_at hl 3 rfl) ?_
        refine lv_aload_n (pc := 165) hx hb dX9_layRange_165 rfl (lv_at hl 1 rfl) ?_
        refine gf_730 (pc := 166) C hP h0 dX9_layRange_166 ?_
        refine lv_iload_n (pc := 169) hx hb dX9_layRange_169 rfl (lv_at hl 3 rfl) ?_
        refine r_ialdK (pc := 170) (n := 60) (k := a2.toNatClampNeg) C hP (cl_29_14 hC h0) (fun _ _ _ _ => rfl) hw.1 rfl dX9_layRange_170 ?_
        replace hw := hw.2
        refine r_iastK (pc := 171) (n := 60) (k := a2.toNatClampNeg) C hP hS (cl_29_15 hC h0) (fun _ _ _ _ => rfl) hw.1 rfl dX9_layRange_171 (fun H locs hP hS => ?_)
        replace hw := hw.2
        exact r_vret (pc := 172) C hP hS hw dX9_layRange_172
      · replace hw := if_t h hw
        refine lv_aload_n (pc := 142) hx hb dX9_layRange_142 rfl (lv_at hl 1 rfl) ?_
        refine lv_iload_n (pc := 143) hx hb dX9_layRange_143 rfl (lv_at hl 3 rfl) ?_
        refine r_cVI (pc := 144) (rest := [.int a2, .ref (ad (43, 0, 0, 0))]) (As := [.int a2]) C hl.1 hP hS (k_X9_three l G hC h0 hw) h0 rfl rfl mw_876 mw_878 mw_46 mw_65 mw_879 ⟨rfl, rfl⟩ hd_X9_three rfl rfl ⟨Nat.le_of_ble_eq_true rfl, Nat.le_of_ble_eq_true rfl⟩ (Nat.le_of_ble_eq_true rfl) ⟨Nat.zero_le _, Nat.zero_le _⟩ dX9_layRange_144 (fun r144 M144 H locs hw hP hS => ?_)
        refine lv_goto (pc := 147) (tgt := 159) hx hb dX9_layRange_147 (by decide) ?_
        refine r_iastK (pc := 159) (n := 60) (k := a2.toNatClampNeg) C hP hS (cl_29_14 hC h0) (fun _ _ _ _ => rfl) hw.1 rfl dX9_layRange_159 (fun H locs hP hS => ?_)
        replace hw := hw.2
        refine lv_aload_n (pc := 160) hx hb dX9_layRange_160 rfl (lv_at hl 1 rfl) ?_
        refine gf_731 (pc := 161) C hP h0 dX9_layRange_161 ?_
        refine lv_iload_n (pc := 164) hx hb dX9_layRange_164 rfl (lv_at hl 3 rfl) ?_
        refine lv_aload_n (pc := 165) hx hb dX9_layRange_165 rfl (lv_at hl 1 rfl) ?_
        refine gf_730 (pc := 166) C hP h0 dX9_layRange_166 ?_
        refine lv_iload_n (pc := 169) hx hb dX9_layRange_169 rfl (lv_at hl 3 rfl) ?_
        refine r_ialdK (pc := 170) (n := 60) (k := a2.toNatClampNeg) C hP (cl_29_14 hC h0) (fun _ _ _ _ => rfl) hw.1 rfl dX9_layRange_170 ?_
        replace hw := hw.2
        refine r_iastK (pc := 171) (n := 60) (k := a2.toNatClampNeg) C hP hS (cl_29_15 hC h0) (fun _ _ _ _ => rfl) hw.1 rfl dX9_layRange_171 (fun H locs hP hS => ?_)
        replace hw := hw.2
        obtain ⟨M171, eM171⟩ : ∃ z : Mem, z = (mu (mu M144 (43, 0, 0, 0) (a2.toNatClampNeg) r144) (44, 0, 0, 0) (a2.toNatClampNeg) ((mu M144 (43, 0, 0, 0) (a2.toNatClampNeg) r144).1 (43, 0, 0, 0) a2.toNatClampNeg)) := ⟨_, rfl⟩
        replace hP : wd G I ad M171 H := by rw [eM171]; exact hP
        replace hw := hw M171 eM171
        exact r_vret (pc := 172) C hP hS hw dX9_layRange_172
    · replace hw := if_t h hw
      refine lv_bipush (pc := 24) (v := (12 : Int32)) hx hb dX9_layRange_24 (by decide) ?_
      refine lv_iconst (pc := 26) (v := (4 : Int32)) hx hb dX9_layRange_26 (by decide) ?_
      refine lv_iload_n (pc := 27) hx hb dX9_layRange_27 rfl (lv_at hl 2 rfl) ?_
      refine lv_imul (pc := 28) hx hb dX9_layRange_28 ?_
      refine lv_aload_n (pc := 29) hx hb dX9_layRange_29 rfl (lv_at hl 1 rfl) ?_
      refine gf_721 (pc := 30) C hP h0 dX9_layRange_30 ?_
      refine lv_iload_n (pc := 33) hx hb dX9_layRange_33 rfl (lv_at hl 3 rfl) ?_
      refine r_ialdK (pc := 34) (n := 60) (k := a2.toNatClampNeg) C hP (cl_29_5 hC h0) (fun _ _ _ _ => rfl) hw.1 rfl dX9_layRange_34 ?_
      replace hw := hw.2
      refine lv_iadd (pc := 35) hx hb dX9_layRange_35 ?_
      refine lv_bipush (pc := 36) (v := (97 : Int32)) hx hb dX9_layRange_36 (by decide) ?_
      refine lv_isub (pc := 38) hx hb dX9_layRange_38 ?_
      refine lv_imul (pc := 39) hx hb dX9_layRange_39 ?_
      refine lv_topi (fun x4_40 ex4_40 => ?_)
      replace hw := hw x4_40 ex4_40
      refine lv_istore (pc := 40) (lv' := [(4, .int x4_40), (3, .int r6), (0, .ref (ad (29, 0, 0, 0))), (1, .int a1), (2, .int a2)]) hx hb dX9_layRange_40 hl (by decide) rfl (fun ls hl => ?_)
      refine lv_aload_n (pc := 42) hx hb dX9_layRange_42 rfl (lv_at hl 2 rfl) ?_
      refine gf_729 (pc := 43) C hP h0 dX9_layRange_43 ?_
      refine lv_iload_n (pc := 46) hx hb dX9_layRange_46 rfl (lv_at hl 4 rfl) ?_
      refine lv_aload_n (pc := 47) hx hb dX9_layRange_47 rfl (lv_at hl 2 rfl) ?_
      refine gf_718 (pc := 48) C hP h0 dX9_layRange_48 ?_
      refine lv_iload (pc := 51) hx hb dX9_layRange_51 (lv_at hl 0 rfl) ?_
      refine lv_iconst (pc := 53) (v := (2 : Int32)) hx hb dX9_layRange_53 (by decide) ?_
      refine lv_iadd (pc := 54) hx hb dX9_layRange_54 ?_
      refine r_ialdK (pc := 55) (n := 288) (k := (x4_40 + (2 : Int32)).toNatClampNeg) C hP (cl_29_2 hC h0) (fun _ _ _ _ => rfl) hw.1 rfl dX9_layRange_55 ?_
      replace hw := hw.2
      refine lv_aload_n (pc := 56) hx hb dX9_layRange_56 rfl (lv_at hl 2 rfl) ?_
      refine gf_717 (pc := 57) C hP h0 dX9_layRange_57 ?_
      refine lv_iload_n (pc := 60) hx hb dX9_layRange_60 rfl (lv_at hl 3 rfl) ?_
      refine r_ialdK (pc := 61) (n := 6) (k := a1.toNatClampNeg) C hP (cl_29_1 hC h0) (fun _ _ _ _ => rfl) hw.1 rfl dX9_layRange_61 ?_
      replace hw := hw.2
      refine lv_icmp_ge (pc := 62) (tgt := 69) hx hb dX9_layRange_62 (by decide) (fun h => ?_) (fun h => ?_)
      · replace hw := if_t h hw
        refine lv_iconst (pc := 69) (v := (0 : Int32)) hx hb dX9_layRange_69 (by decide) ?_
        exact j_X9_layRange_70 C hC h0 x4_40 (0 : Int32) a2 M6 _ _ _ hw hP hS (lv_sub hl [2, 4, 0] rfl) (cl_29_13 hC h0)
      · replace hw := if_f h hw
        refine lv_iconst (pc := 65) (v := (1 : Int32)) hx hb dX9_layRange_65 (by decide) ?_
        refine lv_goto (pc := 66) (tgt := 70) hx hb dX9_layRange_66 (by decide) ?_
        exact j_X9_layRange_70 C hC h0 x4_40 (1 : Int32) a2 M6 _ _ _ hw hP hS (lv_sub hl [2, 4, 0] rfl) (cl_29_13 hC h0)
end
theorem k_X9_layRange (l : Launch) (G : GG) {I : ix → Prop} {ad : ix → Nat} (hC : clo I) {a1 : Int32} {a2 : Int32} (h0 : I (29, 0, 0, 0)) {Q : Mem → Prop} {M : Mem} (hw : w_X9_layRange a1 a2 Q M) : Met l yX9_layRange (wW yX9_layRange cX9_layRange 22 none) rm_X9_layRange (va_Pc [.ref (ad (29, 0, 0, 0)), .int a1, .int a2] (fun U => wd G I ad M U.heap ∧ wK G U)) (qV G I ad Q) 0 0 (fA I ad) := met_of (by decide +kernel) (Nat.le_of_ble_eq_true rfl) (fun p e s m below meth c C hP hS ls hl => j_X9_layRange_0 C hC h0 _ _ _ _ hw hP hS hl)
