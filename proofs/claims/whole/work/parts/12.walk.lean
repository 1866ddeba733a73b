section
variable {p : Program} {l : Launch} {e : Env} {s : State} {m : MethodId} {args : Array Value} {below : List Frame} {meth : Method} {c : Code} 
variable  {G : GG} {I : ix → Prop} {ad : ix → Nat}
set_option maxHeartbeats 4000000 in
set_option maxRecDepth 100000 in
theorem j_X8_isBlock_0 {a0 : Int32} (C : cx p s m args meth c cX8_isBlock 1 (some .boolean) RX8 G) (hC : clo I) {Q : Int32 → Mem → Prop} : ∀ (M : Mem) (H : Heap) (locs : List Loc) (ls : Array Slot), w_X8_isBlock a0 Q M → wd G I ad M H → va_S (fA I ad) s.heap H locs → lv_has ls 1 [(0, .int a0)] → W p l e rm_X8_isBlock s m args below meth c H locs 0 0 (MQ below (qI G I ad Q) args s 0 0 (fA I ad)) (F0 m 0 ls []) := by
  have hx := C.1
  have hb := C.2.1
  have hown := C.2.2.2.1
  have hts := C.2.2.2.2.1
  intro M H locs ls hw hP hS hl
  unfold w_X8_isBlock at hw
  refine lv_iload_n (pc := 0) hx hb dX8_isBlock_0 rfl (lv_at hl 0 rfl) ?_
  refine lv_if_lt (pc := 1) (tgt := 14) hx hb dX8_isBlock_1 (by decide) (fun h => ?_) (fun h => ?_)
  · replace hw := if_t h hw
    refine lv_iconst (pc := 14) (v := (0 : Int32)) hx hb dX8_isBlock_14 (by decide) ?_
    exact r_zret (pc := 15) C hP hS (by decide) hw dX8_isBlock_15
  · replace hw := if_f h hw
    refine lv_iload_n (pc := 4) hx hb dX8_isBlock_4 rfl (lv_at hl 0 rfl) ?_
    refine lv_bipush (pc := 5) (v := (6 : Int32)) hx hb dX8_isBlock_5 (by decide) ?_
    refine lv_icmp_ge (pc := 7) (tgt := 14) hx hb dX8_isBlock_7 (by decide) (fun h => ?_) (fun h => ?_)
    · replace hw := if_t h hw
      refine lv_iconst (pc := 14) (v := (0 : Int32)) hx hb dX8_isBlock_14 (by decide) ?_
      exact r_zret (pc := 15) C hP hS (by decide) hw dX8_isBlock_15
    · replace hw := if_f h hw
      refine lv_iconst (pc := 10) (v := (1 : Int32)) hx hb dX8_isBlock_10 (by decide) ?_
      refine lv_goto (pc := 11) (tgt := 15) hx hb dX8_isBlock_11 (by decide) ?_
      exact r_zret (pc := 15) C hP hS (by decide) hw dX8_isBlock_15
end
theorem k_X8_isBlock (l : Launch) (G : GG) {I : ix → Prop} {ad : ix → Nat} (hC : clo I) {a0 : Int32} {Q : Int32 → Mem → Prop} {M : Mem} (hw : w_X8_isBlock a0 Q M) : Met l yX8_isBlock (wW yX8_isBlock cX8_isBlock 1 (some .boolean)) rm_X8_isBlock (va_Pc [.int a0] (fun U => wd G I ad M U.heap ∧ wK G U)) (qI G I ad Q) 0 0 (fA I ad) := met_of (by decide +kernel) (Nat.le_of_ble_eq_true rfl) (fun p e s m below meth c C hP hS ls hl => j_X8_isBlock_0 C hC  _ _ _ _ hw hP hS hl)
section
variable {p : Program} {l : Launch} {e : Env} {s : State} {m : MethodId} {args : Array Value} {below : List Frame} {meth : Method} {c : Code} 
variable  {G : GG} {I : ix → Prop} {ad : ix → Nat}
set_option maxHeartbeats 4000000 in
set_option maxRecDepth 100000 in
theorem j_X8_isEntry_0 {a0 : Int32} (C : cx p s m args meth c cX8_isEntry 1 (some .boolean) RX8 G) (hC : clo I) {Q : Int32 → Mem → Prop} : ∀ (M : Mem) (H : Heap) (locs : List Loc) (ls : Array Slot), w_X8_isEntry a0 Q M → wd G I ad M H → va_S (fA I ad) s.heap H locs → lv_has ls 1 [(0, .int a0)] → W p l e rm_X8_isEntry s m args below meth c H locs 0 0 (MQ below (qI G I ad Q) args s 0 0 (fA I ad)) (F0 m 0 ls []) := by
  have hx := C.1
  have hb := C.2.1
  have hown := C.2.2.2.1
  have hts := C.2.2.2.2.1
  intro M H locs ls hw hP hS hl
  unfold w_X8_isEntry at hw
  refine lv_iload_n (pc := 0) hx hb dX8_isEntry_0 rfl (lv_at hl 0 rfl) ?_
  refine lv_sipush (pc := 1) (v := (-999 : Int32)) hx hb dX8_isEntry_1 (by decide) ?_
  refine lv_icmp_lt (pc := 4) (tgt := 18) hx hb dX8_isEntry_4 (by decide) (fun h => ?_) (fun h => ?_)
  · replace hw := if_t h hw
    refine lv_iconst (pc := 18) (v := (0 : Int32)) hx hb dX8_isEntry_18 (by decide) ?_
    exact r_zret (pc := 19) C hP hS (by decide) hw dX8_isEntry_19
  · replace hw := if_f h hw
    refine lv_iload_n (pc := 7) hx hb dX8_isEntry_7 rfl (lv_at hl 0 rfl) ?_
    refine lv_sipush (pc := 8) (v := (1000 : Int32)) hx hb dX8_isEntry_8 (by decide) ?_
    refine lv_icmp_gt (pc := 11) (tgt := 18) hx hb dX8_isEntry_11 (by decide) (fun h => ?_) (fun h => ?_)
    · replace hw := if_t h hw
      refine lv_iconst (pc := 18) (v := (0 : Int32)) hx hb dX8_isEntry_18 (by decide) ?_
      exact r_zret (pc := 19) C hP hS (by decide) hw dX8_isEntry_19
    · replace hw := if_f h hw
      refine lv_iconst (pc := 14) (v := (1 : Int32)) hx hb dX8_isEntry_14 (by decide) ?_
      refine lv_goto (pc := 15) (tgt := 19) hx hb dX8_isEntry_15 (by decide) ?_
      exact r_zret (pc := 19) C hP hS (by decide) hw dX8_isEntry_19
end
theorem k_X8_isEntry (l : Launch) (G : GG) {I : ix → Prop} {ad : ix → Nat} (hC : clo I) {a0 : Int32} {Q : Int32 → Mem → Prop} {M : Mem} (hw : w_X8_isEntry a0 Q M) : Met l yX8_isEntry (wW yX8_isEntry cX8_isEntry 1 (some .boolean)) rm_X8_isEntry (va_Pc [.int a0] (fun U => wd G I ad M U.heap ∧ wK G U)) (qI G I ad Q) 0 0 (fA I ad) := met_of (by decide +kernel) (Nat.le_of_ble_eq_true rfl) (fun p e s m below meth c C hP hS ls hl => j_X8_isEntry_0 C hC  _ _ _ _ hw hP hS hl)
section
variable {p : Program} {l : Launch} {e : Env} {s : State} {m : MethodId} {args : Array Value} {below : List Frame} {meth : Method} {c : Code} 
variable  {G : GG} {I : ix → Prop} {ad : ix → Nat}
set_option maxHeartbeats 4000000 in
set_option maxRecDepth 100000 in
theorem j_X8_add_0 {a1 : Int32} {a2 : Int32} {a3 : Int32} {a4 : Int32} {a5 : Int32} (C : cx p s m args meth c cX8_add 6 (some .int) RX8 G) (hC : clo I) (h0 : I (0, 0, 0, 0)) {Q : Int32 → Mem → Prop} : ∀ (M : Mem) (H : Heap) (locs : List Loc) (ls : Array Slot), w_X8_add a1 a2 a3 a4 a5 Q M → wd G I ad M H → va_S (fA I ad) s.heap H locs → lv_has ls 6 [(0, .ref (ad (0, 0, 0, 0))), (1, .int a1), (2, .int a2), (3, .int a3), (4, .int a4), (5, .int a5)] → W p l e rm_X8_add s m args below meth c H locs 0 0 (MQ below (qI G I ad Q) args s 0 0 (fA I ad)) (F0 m 0 ls []) := by
  have hx := C.1
  have hb := C.2.1
  have hown := C.2.2.2.1
  have hts := C.2.2.2.2.1
  intro M H locs ls hw hP hS hl
  unfold w_X8_add at hw
  refine lv_iload_n (pc := 0) hx hb dX8_add_0 rfl (lv_at hl 1 rfl) ?_
  refine r_cSI (pc := 1) (rest := []) (As := [.int a1]) C hl.1 hP hS (k_X8_isBlock l G hC  hw) mw_326 mw_327 mw_56 mw_328 ⟨rfl, rfl⟩ hd_X8_isBlock rfl rfl ⟨Nat.le_of_ble_eq_true rfl, Nat.le_of_ble_eq_true rfl⟩ (Nat.le_of_ble_eq_true rfl) ⟨Nat.zero_le _, Nat.zero_le _⟩ dX8_add_1 (fun r1 M1 H locs hw hP hS => ?_)
  refine lv_if_ne (pc := 4) (tgt := 9) hx hb dX8_add_4 (by decide) (fun h => ?_) (fun h => ?_)
  · replace hw := if_f h hw
    refine lv_iload_n (pc := 9) hx hb dX8_add_9 rfl (lv_at hl 2 rfl) ?_
    refine r_cSI (pc := 10) (rest := []) (As := [.int a2]) C hl.1 hP hS (k_X8_isEntry l G hC  hw) mw_329 mw_330 mw_56 mw_331 ⟨rfl, rfl⟩ hd_X8_isEntry rfl rfl ⟨Nat.le_of_ble_eq_true rfl, Nat.le_of_ble_eq_true rfl⟩ (Nat.le_of_ble_eq_true rfl) ⟨Nat.zero_le _, Nat.zero_le _⟩ dX8_add_10 (fun r10 M10 H locs hw hP hS => ?_)
    refine lv_if_eq (pc := 13) (tgt := 39) hx hb dX8_add_13 (by decide) (fun h => ?_) (fun h => ?_)
    · replace hw := if_t h hw
      refine lv_bipush (pc := 39) (v := (-2 : Int32)) hx hb dX8_add_39 (by decide) ?_
      exact r_iret (pc := 41) C hP hS hw dX8_add_41
    · replace hw := if_f h hw
      refine lv_iload_n (pc := 16) hx hb dX8_add_16 rfl (lv_at hl 3 rfl) ?_
      refine r_cSI (pc := 17) (rest := []) (As := [.int a3]) C hl.1 hP hS (k_X8_isEntry l G hC  hw) mw_329 mw_330 mw_56 mw_331 ⟨rfl, rfl⟩ hd_X8_isEntry rfl rfl ⟨Nat.le_of_ble_eq_true rfl, Nat.le_of_ble_eq_true rfl⟩ (Nat.le_of_ble_eq_true rfl) ⟨Nat.zero_le _, Nat.zero_le _⟩ dX8_add_17 (fun r17 M17 H locs hw hP hS => ?_)
      refine lv_if_eq (pc := 20) (tgt := 39) hx hb dX8_add_20 (by decide) (fun h => ?_) (fun h => ?_)
      · replace hw := if_t h hw
        refine lv_bipush (pc := 39) (v := (-2 : Int32)) hx hb dX8_add_39 (by decide) ?_
        exact r_iret (pc := 41) C hP hS hw dX8_add_41
      · replace hw := if_f h hw
        refine lv_iload (pc := 23) hx hb dX8_add_23 (lv_at hl 4 rfl) ?_
        refine r_cSI (pc := 25) (rest := []) (As := [.int a4]) C hl.1 hP hS (k_X8_isEntry l G hC  hw) mw_329 mw_330 mw_56 mw_331 ⟨rfl, rfl⟩ hd_X8_isEntry rfl rfl ⟨Nat.le_of_ble_eq_true rfl, Nat.le_of_ble_eq_true rfl⟩ (Nat.le_of_ble_eq_true rfl) ⟨Nat.zero_le _, Nat.zero_le _⟩ dX8_add_25 (fun r25 M25 H locs hw hP hS => ?_)
        refine lv_if_eq (pc := 28) (tgt := 39) hx hb dX8_add_28 (by decide) (fun h => ?_) (fun h => ?_)
        · replace hw := if_t h hw
          refine lv_bipush (pc := 39) (v := (-2 : Int32)) hx hb dX8_add_39 (by decide) ?_
          exact r_iret (pc := 41) C hP hS hw dX8_add_41
        · replace hw := if_f h hw
          refine lv_iload (pc := 31) hx hb dX8_add_31 (lv_at hl 5 rfl) ?_
          refine r_cSI (pc := 33) (rest := []) (As := [.int a5]) C hl.1 hP hS (k_X8_isEntry l G hC  hw) mw_329 mw_330 mw_56 mw_331 ⟨rfl, rfl⟩ hd_X8_isEntry rfl rfl ⟨Nat.le_of_ble_eq_true rfl, Nat.le_of_ble_eq_true rfl⟩ (Nat.le_of_ble_eq_true rfl) ⟨Nat.zero_le _, Nat.zero_le _⟩ dX8_add_33 (fun r33 M33 H locs hw hP hS => ?_)
          refine lv_if_ne (pc := 36) (tgt := 42) hx hb dX8_add_36 (by decide) (fun h => ?_) (fun h => ?_)
          · replace hw := if_f h hw
            refine lv_aload_n (pc := 42) hx hb dX8_add_42 rfl (lv_at hl 0 rfl) ?_
            refine gf_294 (pc := 43) C hP h0 dX8_add_43 ?_
            refine gf_156 (pc := 46) C hP (cl_0_0 hC h0) dX8_add_46 ?_
            refine lv_iload_n (pc := 49) hx hb dX8_add_49 rfl (lv_at hl 1 rfl) ?_
            refine r_aald2 (pc := 50) C hP (cl_1_0 hC (cl_0_0 hC h0)) hw.1 dX8_add_50 ?_
            have hi50 := in_lt hw.1
            replace hw := hw.2
            refine lv_iload_n (pc := 51) hx hb dX8_add_51 rfl (lv_at hl 2 rfl) ?_
            refine lv_iload_n (pc := 52) hx hb dX8_add_52 rfl (lv_at hl 3 rfl) ?_
            refine lv_iload (pc := 53) hx hb dX8_add_53 (lv_at hl 4 rfl) ?_
            refine lv_iload (pc := 55) hx hb dX8_add_55 (lv_at hl 5 rfl) ?_
            refine r_cVI (pc := 57) (rest := []) (As := [.int a2, .int a3, .int a4, .int a5]) C hl.1 hP hS (k_X0_append l G hC (cl_2_e hC (cl_1_0 hC (cl_0_0 hC h0)) hi50) hw) (cl_2_e hC (cl_1_0 hC (cl_0_0 hC h0)) hi50) rfl rfl mw_332 mw_333 mw_334 mw_58 mw_335 ⟨rfl, rfl⟩ hd_X0_append rfl rfl ⟨Nat.le_of_ble_eq_true rfl, Nat.le_of_ble_eq_true rfl⟩ (Nat.le_of_ble_eq_true rfl) ⟨Nat.zero_le _, Nat.zero_le _⟩ dX8_add_57 (fun r57 M57 H locs hw hP hS => ?_)
            exact r_iret (pc := 60) C hP hS hw dX8_add_60
          · replace hw := if_t h hw
            refine lv_bipush (pc := 39) (v := (-2 : Int32)) hx hb dX8_add_39 (by decide) ?_
            exact r_iret (pc := 41) C hP hS hw dX8_add_41
  · replace hw := if_t h hw
    refine lv_iconst (pc := 7) (v := (-1 : Int32)) hx hb dX8_add_7 (by decide) ?_
    exact r_iret (pc := 8) C hP hS hw dX8_add_8
end
theorem k_X8_add (l : Launch) (G : GG) {I : ix → Prop} {ad : ix → Nat} (hC : clo I) {a1 : Int32} {a2 : Int32} {a3 : Int32} {a4 : Int32} {a5 : Int32} (h0 : I (0, 0, 0, 0)) {Q : Int32 → Mem → Prop} {M : Mem} (hw : w_X8_add a1 a2 a3 a4 a5 Q M) : Met l yX8_add (wW yX8_add cX8_add 6 (some .int)) rm_X8_add (va_Pc [.ref (ad (0, 0, 0, 0)), .int a1, .int a2, .int a3, .int a4, .int a5] (fun U => wd G I ad M U.heap ∧ wK G U)) (qI G I ad Q) 0 0 (fA I ad) := met_of (by decide +kernel) (Nat.le_of_ble_eq_true rfl) (fun p e s m below meth c C hP hS ls hl => j_X8_add_0 C hC h0 _ _ _ _ hw hP hS hl)
section
variable {p : Program} {l : Launch} {e : Env} {s : State} {m : MethodId} {args : Array Value} {below : List Frame} {meth : Method} {c : Code} 
variable  {G : GG} {I : ix → Prop} {ad : ix → Nat}
set_option maxHeartbeats 4000000 in
set_option maxRecDepth 100000 in
theorem j_X8_isRow_0 {a1 : Int32} {a2 : Int32} (C : cx p s m args meth c cX8_isRow 3 (some .boolean) RX8 G) (hC : clo I) (h0 : I (0, 0, 0, 0)) {Q : Int32 → Mem → Prop} : ∀ (M : Mem) (H : Heap) (locs : List Loc) (ls : Array Slot), w_X8_isRow a1 a2 Q M → wd G I ad M H → va_S (fA I ad) s.heap H locs → lv_has ls 3 [(0, .ref (ad (0, 0, 0, 0))), (1, .int a1), (2, .int a2)] → W p l e rm_X8_isRow s m args below meth c H locs 0 0 (MQ below (qI G I ad Q) args s 0 0 (fA I ad)) (F0 m 0 ls []) := by
  have hx := C.1
  have hb := C.2.1
  have hown := C.2.2.2.1
  have hts := C.2.2.2.2.1
  intro M H locs ls hw hP hS hl
  unfold w_X8_isRow at hw
  refine lv_iload_n (pc := 0) hx hb dX8_isRow_0 rfl (lv_at hl 1 rfl) ?_
  refine r_cSI (pc := 1) (rest := []) (As := [.int a1]) C hl.1 hP hS (k_X8_isBlock l G hC  hw) mw_326 mw_327 mw_56 mw_328 ⟨rfl, rfl⟩ hd_X8_isBlock rfl rfl ⟨Nat.le_of_ble_eq_true rfl, Nat.le_of_ble_eq_true rfl⟩ (Nat.le_of_ble_eq_true rfl) ⟨Nat.zero_le _, Nat.zero_le _⟩ dX8_isRow_1 (fun r1 M1 H locs hw hP hS => ?_)
  refine lv_if_eq (pc := 4) (tgt := 31) hx hb dX8_isRow_4 (by decide) (fun h => ?_) (fun h => ?_)
  · replace hw := if_t h hw
    refine lv_iconst (pc := 31) (v := (0 : Int32)) hx hb dX8_isRow_31 (by decide) ?_
    exact r_zret (pc := 32) C hP hS (by decide) hw dX8_isRow_32
  · replace hw := if_f h hw
    refine lv_iload_n (pc := 7) hx hb dX8_isRow_7 rfl (lv_at hl 2 rfl) ?_
    refine lv_if_lt (pc := 8) (tgt := 31) hx hb dX8_isRow_8 (by decide) (fun h => ?_) (fun h => ?_)
    · replace hw := if_t h hw
      refine lv_iconst (pc := 31) (v := (0 : Int32)) hx hb dX8_isRow_31 (by decide) ?_
      exact r_zret (pc := 32) C hP hS (by decide) hw dX8_isRow_32
    · replace hw := if_f h hw
      refine lv_iload_n (pc := 11) hx hb dX8_isRow_11 rfl (lv_at hl 2 rfl) ?_
      refine lv_aload_n (pc := 12) hx hb dX8_isRow_12 rfl (lv_at hl 0 rfl) ?_
      refine gf_294 (pc := 13) C hP h0 dX8_isRow_13 ?_
      refine gf_156 (pc := 16) C hP (cl_0_0 hC h0) dX8_isRow_16 ?_
      refine lv_iload_n (pc := 19) hx hb dX8_isRow_19 rfl (lv_at hl 1 rfl) ?_
      refine r_aald2 (pc := 20) C hP (cl_1_0 hC (cl_0_0 hC h0)) hw.1 dX8_isRow_20 ?_
      have hi20 := in_lt hw.1
      replace hw := hw.2
      refine gf_139 (pc := 21) C hP (cl_2_e hC (cl_1_0 hC (cl_0_0 hC h0)) hi20) dX8_isRow_21 ?_
      refine lv_icmp_ge (pc := 24) (tgt := 31) hx hb dX8_isRow_24 (by decide) (fun h => ?_) (fun h => ?_)
      · replace hw := if_t h hw
        refine lv_iconst (pc := 31) (v := (0 : Int32)) hx hb dX8_isRow_31 (by decide) ?_
        exact r_zret (pc := 32) C hP hS (by decide) hw dX8_isRow_32
      · replace hw := if_f h hw
        refine lv_iconst (pc := 27) (v := (1 : Int32)) hx hb dX8_isRow_27 (by decide) ?_
        refine lv_goto (pc := 28) (tgt := 32) hx hb dX8_isRow_28 (by decide) ?_
        exact r_zret (pc := 32) C hP hS (by decide) hw dX8_isRow_32
end
theorem k_X8_isRow (l : Launch) (G : GG) {I : ix → Prop} {ad : ix → Nat} (hC : clo I) {a1 : Int32} {a2 : Int32} (h0 : I (0, 0, 0, 0)) {Q : Int32 → Mem → Prop} {M : Mem} (hw : w_X8_isRow a1 a2 Q M) : Met l yX8_isRow (wW yX8_isRow cX8_isRow 3 (some .boolean)) rm_X8_isRow (va_Pc [.ref (ad (0, 0, 0, 0)), .int a1, .int a2] (fun U => wd G I ad M U.heap ∧ wK G U)) (qI G I ad Q) 0 0 (fA I ad) := met_of (by decide +kernel) (Nat.le_of_ble_eq_true rfl) (fun p e s m below meth c C hP hS ls hl => j_X8_isRow_0 C hC h0 _ _ _ _ hw hP hS hl)
section
variable {p : Program} {l : Launch} {e : Env} {s : State} {m : MethodId} {args : Array Value} {below : List Frame} {meth : Method} {c : Code} 
variable  {G : GG} {I : ix → Prop} {ad : ix → Nat}
set_option maxHeartbeats 4000000 in
set_option maxRecDepth 100000 in
theorem j_X8_drop_0 {a1 : Int32} {a2 : Int32} (C : cx p s m args meth c cX8_drop 3 (some .int) RX8 G) (hC : clo I) (h0 : I (0, 0, 0, 0)) {Q : Int32 → Mem → Prop} : ∀ (M : Mem) (H : Heap) (locs : List Loc) (ls : Array Slot), w_X8_drop a1 a2 Q M → wd G I ad M H → va_S (fA I ad) s.heap H locs → lv_has ls 3 [(0, .ref (ad (0, 0, 0, 0))), (1, .int a1), (2, .int a2)] → W p l e rm_X8_drop s m args below meth c H locs 0 0 (MQ below (qI G I ad Q) args s 0 0 (fA I ad)) (F0 m 0 ls []) := by
  have hx := C.1
  have hb := C.2.1
  have hown := C.2.2.2.1
  have hts := C.2.2.2.2.1
  intro M H locs ls hw hP hS hl
  unfold w_X8_drop at hw
  refine lv_aload_n (pc := 0) hx hb dX8_drop_0 rfl (lv_at hl 0 rfl) ?_
  refine lv_iload_n (pc := 1) hx hb dX8_drop_1 rfl (lv_at hl 1 rfl) ?_
  refine lv_iload_n (pc := 2) hx hb dX8_drop_2 rfl (lv_at hl 2 rfl) ?_
  refine r_cVI (pc := 3) (rest := []) (As := [.int a1, .int a2]) C hl.1 hP hS (k_X8_isRow l G hC h0 hw) h0 rfl rfl mw_358 mw_360 mw_3 mw_56 mw_361 ⟨rfl, rfl⟩ hd_X8_isRow rfl rfl ⟨Nat.le_of_ble_eq_true rfl, Nat.le_of_ble_eq_true rfl⟩ (Nat.le_of_ble_eq_true rfl) ⟨Nat.zero_le _, Nat.zero_le _⟩ dX8_drop_3 (fun r3 M3 H locs hw hP hS => ?_)
  refine lv_if_ne (pc := 6) (tgt := 11) hx hb dX8_drop_6 (by decide) (fun h => ?_) (fun h => ?_)
  · replace hw := if_f h hw
    refine lv_aload_n (pc := 11) hx hb dX8_drop_11 rfl (lv_at hl 0 rfl) ?_
    refine gf_294 (pc := 12) C hP h0 dX8_drop_12 ?_
    refine gf_156 (pc := 15) C hP (cl_0_0 hC h0) dX8_drop_15 ?_
    refine lv_iload_n (pc := 18) hx hb dX8_drop_18 rfl (lv_at hl 1 rfl) ?_
    refine r_aald2 (pc := 19) C hP (cl_1_0 hC (cl_0_0 hC h0)) hw.1 dX8_drop_19 ?_
    have hi19 := in_lt hw.1
    replace hw := hw.2
    refine lv_iload_n (pc := 20) hx hb dX8_drop_20 rfl (lv_at hl 2 rfl) ?_
    refine r_cVI (pc := 21) (rest := []) (As := [.int a2]) C hl.1 hP hS (k_X0_remove l G hC (cl_2_e hC (cl_1_0 hC (cl_0_0 hC h0)) hi19) hw) (cl_2_e hC (cl_1_0 hC (cl_0_0 hC h0)) hi19) rfl rfl mw_362 mw_363 mw_364 mw_58 mw_365 ⟨rfl, rfl⟩ hd_X0_remove rfl rfl ⟨Nat.le_of_ble_eq_true rfl, Nat.le_of_ble_eq_true rfl⟩ (Nat.le_of_ble_eq_true rfl) ⟨Nat.zero_le _, Nat.zero_le _⟩ dX8_drop_21 (fun r21 M21 H locs hw hP hS => ?_)
    exact r_iret (pc := 24) C hP hS hw dX8_drop_24
  · replace hw := if_t h hw
    refine lv_iconst (pc := 9) (v := (-1 : Int32)) hx hb dX8_drop_9 (by decide) ?_
    exact r_iret (pc := 10) C hP hS hw dX8_drop_10
end
theorem k_X8_drop (l : Launch) (G : GG) {I : ix → Prop} {ad : ix → Nat} (hC : clo I) {a1 : Int32} {a2 : Int32} (h0 : I (0, 0, 0, 0)) {Q : Int32 → Mem → Prop} {M : Mem} (hw : w_X8_drop a1 a2 Q M) : Met l yX8_drop (wW yX8_drop cX8_drop 3 (some .int)) rm_X8_drop (va_Pc [.ref (ad (0, 0, 0, 0)), .int a1, .int a2] (fun U => wd G I ad M U.heap ∧ wK G U)) (qI G I ad Q) 0 0 (fA I ad) := met_of (by decide +kernel) (Nat.le_of_ble_eq_true rfl) (fun p e s m below meth c C hP hS ls hl => j_X8_drop_0 C hC h0 _ _ _ _ hw hP hS hl)
section
variable {p : Program} {l : Launch} {e : Env} {s : State} {m : MethodId} {args : Array Value} {below : List Frame} {meth : Method} {c : Code} 
variable  {G : GG} {I : ix → Prop} {ad : ix → Nat}
set_option maxHeartbeats 4000000 in
set_option maxRecDepth 100000 in
theorem j_X8_anew_0 {a1 : Int32} (C : cx p s m args meth c cX8_anew 2 (some .int) RX8 G) (hC : clo I) (h0 : I (0, 0, 0, 0)) {Q : Int32 → Mem → Prop} : ∀ (M : Mem) (H : Heap) (locs : List Loc) (ls : Array Slot), w_X8_anew a1 Q M → wd G I ad M H → va_S (fA I ad) s.heap H locs → lv_has ls 2 [(0, .ref (ad (0, 0, 0, 0))), (1, .int a1)] → W p l e rm_X8_anew s m args below meth c H locs 0 0 (MQ below (qI G I ad Q) args s 0 0 (fA I ad)) (F0 m 0 ls []) := by
  have hx := C.1
  have hb := C.2.1
  have hown := C.2.2.2.1
  have hts := C.2.2.2.2.1
  intro M H locs ls hw hP hS hl
  unfold w_X8_anew at hw
  refine lv_iload_n (pc := 0) hx hb dX8_anew_0 rfl (lv_at hl 1 rfl) ?_
  refine r_cSI (pc := 1) (rest := []) (As := [.int a1]) C hl.1 hP hS (k_X8_isBlock l G hC  hw) mw_326 mw_327 mw_56 mw_328 ⟨rfl, rfl⟩ hd_X8_isBlock rfl rfl ⟨Nat.le_of_ble_eq_true rfl, Nat.le_of_ble_eq_true rfl⟩ (Nat.le_of_ble_eq_true rfl) ⟨Nat.zero_le _, Nat.zero_le _⟩ dX8_anew_1 (fun r1 M1 H locs hw hP hS => ?_)
  refine lv_if_ne (pc := 4) (tgt := 9) hx hb dX8_anew_4 (by decide) (fun h => ?_) (fun h => ?_)
  · replace hw := if_f h hw
    refine lv_aload_n (pc := 9) hx hb dX8_anew_9 rfl (lv_at hl 0 rfl) ?_
    refine gf_294 (pc := 10) C hP h0 dX8_anew_10 ?_
    refine gf_156 (pc := 13) C hP (cl_0_0 hC h0) dX8_anew_13 ?_
    refine lv_iload_n (pc := 16) hx hb dX8_anew_16 rfl (lv_at hl 1 rfl) ?_
    refine r_aald2 (pc := 17) C hP (cl_1_0 hC (cl_0_0 hC h0)) hw.1 dX8_anew_17 ?_
    have hi17 := in_lt hw.1
    replace hw := hw.2
    refine r_cVI (pc := 18) (rest := []) (As := []) C hl.1 hP hS (k_X0_renew l G hC (cl_2_e hC (cl_1_0 hC (cl_0_0 hC h0)) hi17) hw) (cl_2_e hC (cl_1_0 hC (cl_0_0 hC h0)) hi17) rfl rfl mw_377 mw_378 mw_379 mw_58 mw_380 ⟨rfl, rfl⟩ hd_X0_renew rfl rfl ⟨Nat.le_of_ble_eq_true rfl, Nat.le_of_ble_eq_true rfl⟩ (Nat.le_of_ble_eq_true rfl) ⟨Nat.zero_le _, Nat.zero_le _⟩ dX8_anew_18 (fun r18 M18 H locs hw hP hS => ?_)
    exact r_iret (pc := 21) C hP hS hw dX8_anew_21
  · replace hw := if_t h hw
    refine lv_iconst (pc := 7) (v := (-1 : Int32)) hx hb dX8_anew_7 (by decide) ?_
    exact r_iret (pc := 8) C hP hS hw dX8_anew_8
end
theorem k_X8_anew (l : Launch) (G : GG) {I : ix → Prop} {ad : ix → Nat} (hC : clo I) {a1 : Int32} (h0 : I (0, 0, 0, 0)) {Q : Int32 → Mem → Prop} {M : Mem} (hw : w_X8_anew a1 Q M) : Met l yX8_anew (wW yX8_anew cX8_anew 2 (some .int)) rm_X8_anew (va_Pc [.ref (ad (0, 0, 0, 0)), .int a1] (fun U => wd G I ad M U.heap ∧ wK G U)) (qI G I ad Q) 0 0 (fA I ad) := met_of (by decide +kernel) (Nat.le_of_ble_eq_true rfl) (fun p e s m below meth c C hP hS ls hl => j_X8_anew_0 C hC h0 _ _ _ _ hw hP hS hl)
section
variable {p : Program} {l : Launch} {e : Env} {s : State} {m : MethodId} {args : Array Value} {below : List Frame} {meth : Method} {c : Code} 
variable  {G : GG} {I : ix → Prop} {ad : ix → Nat}
set_option maxHeartbeats 4000000 in
set_option maxRecDepth 100000 in
theorem j_X8_cell_0 {a1 : Int32} {a2 : Int32} {a3 : Int32} (C : cx p s m args meth c cX8_cell 4 (some .int) RX8 G) (hC : clo I) (h0 : I (0, 0, 0, 0)) {Q : Int32 → Mem → Prop} : ∀ (M : Mem) (H : Heap) (locs : List Loc) (ls : Array Slot), w_X8_cell a1 a2 a3 Q M → wd G I ad M H → va_S (fA I ad) s.heap H locs → lv_has ls 4 [(0, .ref (ad (0, 0, 0, 0))), (1, .int a1), (2, .int a2), (3, .int a3)] → W p l e rm_X8_cell s m args below meth c H locs 0 0 (MQ below (qI G I ad Q) args s 0 0 (fA I ad)) (F0 m 0 ls []) := by
  have hx := C.1
  have hb := C.2.1
  have hown := C.2.2.2.1
  have hts := C.2.2.2.2.1
  intro M H locs ls hw hP hS hl
  unfold w_X8_cell at hw
  refine lv_aload_n (pc := 0) hx hb dX8_cell_0 rfl (lv_at hl 0 rfl) ?_
  refine lv_iload_n (pc := 1) hx hb dX8_cell_1 rfl (lv_at hl 1 rfl) ?_
  refine lv_iload_n (pc := 2) hx hb dX8_cell_2 rfl (lv_at hl 2 rfl) ?_
  refine r_cVI (pc := 3) (rest := []) (As := [.int a1, .int a2]) C hl.1 hP hS (k_X8_isRow l G hC h0 hw) h0 rfl rfl mw_358 mw_360 mw_3 mw_56 mw_361 ⟨rfl, rfl⟩ hd_X8_isRow rfl rfl ⟨Nat.le_of_ble_eq_true rfl, Nat.le_of_ble_eq_true rfl⟩ (Nat.le_of_ble_eq_true rfl) ⟨Nat.zero_le _, Nat.zero_le _⟩ dX8_cell_3 (fun r3 M3 H locs hw hP hS => ?_)
  refine lv_if_eq (pc := 6) (tgt := 16) hx hb dX8_cell_6 (by decide) (fun h => ?_) (fun h => ?_)
  · replace hw := if_t h hw
    refine lv_ldc (pc := 16) (own := RX8) (v := (-3000001 : Int32)) hx hb hown (hts _ mw_406) dX8_cell_16 ?_
    exact r_iret (pc := 18) C hP hS hw dX8_cell_18
  · replace hw := if_f h hw
    refine lv_iload_n (pc := 9) hx hb dX8_cell_9 rfl (lv_at hl 3 rfl) ?_
    refine r_cSI (pc := 10) (rest := []) (As := [.int a3]) C hl.1 hP hS (k_X8_isColumn l G hC  hw) mw_403 mw_404 mw_56 mw_405 ⟨rfl, rfl⟩ hd_X8_isColumn rfl rfl ⟨Nat.le_of_ble_eq_true rfl, Nat.le_of_ble_eq_true rfl⟩ (Nat.le_of_ble_eq_true rfl) ⟨Nat.zero_le _, Nat.zero_le _⟩ dX8_cell_10 (fun r10 M10 H locs hw hP hS => ?_)
    refine lv_if_ne (pc := 13) (tgt := 19) hx hb dX8_cell_13 (by decide) (fun h => ?_) (fun h => ?_)
    · replace hw := if_f h hw
      refine lv_aload_n (pc := 19) hx hb dX8_cell_19 rfl (lv_at hl 0 rfl) ?_
      refine gf_294 (pc := 20) C hP h0 dX8_cell_20 ?_
      refine gf_156 (pc := 23) C hP (cl_0_0 hC h0) dX8_cell_23 ?_
      refine lv_iload_n (pc := 26) hx hb dX8_cell_26 rfl (lv_at hl 1 rfl) ?_
      refine r_aald2 (pc := 27) C hP (cl_1_0 hC (cl_0_0 hC h0)) hw.1 dX8_cell_27 ?_
      have hi27 := in_lt hw.1
      replace hw := hw.2
      refine gf_141 (pc := 28) C hP (cl_2_e hC (cl_1_0 hC (cl_0_0 hC h0)) hi27) dX8_cell_28 ?_
      refine lv_iload_n (pc := 31) hx hb dX8_cell_31 rfl (lv_at hl 2 rfl) ?_
      refine r_aald4 (pc := 32) C hP (cl_3_1 hC (cl_2_e hC (cl_1_0 hC (cl_0_0 hC h0)) hi27)) hw.1 dX8_cell_32 ?_
      have hi32 := in_lt hw.1
      replace hw := hw.2
      refine lv_iload_n (pc := 33) hx hb dX8_cell_33 rfl (lv_at hl 3 rfl) ?_
      refine r_ialdK (pc := 34) (n := 4) (k := a3.toNatClampNeg) C hP (cl_4_e hC (cl_3_1 hC (cl_2_e hC (cl_1_0 hC (cl_0_0 hC h0)) hi27)) hi32) (fun _ _ _ _ => rfl) hw.1 rfl dX8_cell_34 ?_
      replace hw := hw.2
      exact r_iret (pc := 35) C hP hS hw dX8_cell_35
    · replace hw := if_t h hw
      refine lv_ldc (pc := 16) (own := RX8) (v := (-3000001 : Int32)) hx hb hown (hts _ mw_406) dX8_cell_16 ?_
      exact r_iret (pc := 18) C hP hS hw dX8_cell_18
end
theorem k_X8_cell (l : Launch) (G : GG) {I : ix → Prop} {ad : ix → Nat} (hC : clo I) {a1 : Int32} {a2 : Int32} {a3 : Int32} (h0 : I (0, 0, 0, 0)) {Q : Int32 → Mem → Prop} {M : Mem} (hw : w_X8_cell a1 a2 a3 Q M) : Met l yX8_cell (wW yX8_cell cX8_cell 4 (some .int)) rm_X8_cell (va_Pc [.ref (ad (0, 0, 0, 0)), .int a1, .int a2, .int a3] (fun U => wd G I ad M U.heap ∧ wK G U)) (qI G I ad Q) 0 0 (fA I ad) := met_of (by decide +kernel) (Nat.le_of_ble_eq_true rfl) (fun p e s m below meth c C hP hS ls hl => j_X8_cell_0 C hC h0 _ _ _ _ hw hP hS hl)
section
variable {p : Program} {l : Launch} {e : Env} {s : State} {m : MethodId} {args : Array Value} {below : List Frame} {meth : Method} {c : Code} 
variable  {G : GG} {I : ix → Prop} {ad : ix → Nat}
set_option maxHeartbeats 4000000 in
set_option maxRecDepth 100000 in
theorem j_X8_summary_0 {a1 : Int32} {a2 : Int32} {a3 : Int32} (C : cx p s m args meth c cX8_summary 5 (some .int) RX8 G) (hC : clo I) (h0 : I (0, 0, 0, 0)) {Q : Int32 → Mem → Prop} : ∀ (M : Mem) (H : Heap) (locs : List Loc) (ls : Array Slot), w_X8_summary a1 a2 a3 Q M → wd G I ad M H → va_S (fA I ad) s.heap H locs → lv_has ls 5 [(0, .ref (ad (0, 0, 0, 0))), (1, .int a1), (2, .int a2), (3, .int a3)] → W p l e rm_X8_summary s m args below meth c H locs 0 0 (MQ below (qI G I ad Q) args s 0 0 (fA I ad)) (F0 m 0 ls []) := by
  have hx := C.1
  have hb := C.2.1
  have hown := C.2.2.2.1
  have hts := C.2.2.2.2.1
  intro M H locs ls hw hP hS hl
  unfold w_X8_summary at hw
  refine lv_iload_n (pc := 0) hx hb dX8_summary_0 rfl (lv_at hl 1 rfl) ?_
  refine r_cSI (pc := 1) (rest := []) (As := [.int a1]) C hl.1 hP hS (k_X8_isBlock l G hC  hw) mw_326 mw_327 mw_56 mw_328 ⟨rfl, rfl⟩ hd_X8_isBlock rfl rfl ⟨Nat.le_of_ble_eq_true rfl, Nat.le_of_ble_eq_true rfl⟩ (Nat.le_of_ble_eq_true rfl) ⟨Nat.zero_le _, Nat.zero_le _⟩ dX8_summary_1 (fun r1 M1 H locs hw hP hS => ?_)
  refine lv_if_eq (pc := 4) (tgt := 14) hx hb dX8_summary_4 (by decide) (fun h => ?_) (fun h => ?_)
  · replace hw := if_t h hw
    refine lv_ldc (pc := 14) (own := RX8) (v := (-3000001 : Int32)) hx hb hown (hts _ mw_406) dX8_summary_14 ?_
    exact r_iret (pc := 16) C hP hS hw dX8_summary_16
  · replace hw := if_f h hw
    refine lv_iload_n (pc := 7) hx hb dX8_summary_7 rfl (lv_at hl 2 rfl) ?_
    refine r_cSI (pc := 8) (rest := []) (As := [.int a2]) C hl.1 hP hS (k_X8_isColumn l G hC  hw) mw_403 mw_404 mw_56 mw_405 ⟨rfl, rfl⟩ hd_X8_isColumn rfl rfl ⟨Nat.le_of_ble_eq_true rfl, Nat.le_of_ble_eq_true rfl⟩ (Nat.le_of_ble_eq_true rfl) ⟨Nat.zero_le _, Nat.zero_le _⟩ dX8_summary_8 (fun r8 M8 H locs hw hP hS => ?_)
    refine lv_if_ne (pc := 11) (tgt := 17) hx hb dX8_summary_11 (by decide) (fun h => ?_) (fun h => ?_)
    · replace hw := if_f h hw
      refine lv_aload_n (pc := 17) hx hb dX8_summary_17 rfl (lv_at hl 0 rfl) ?_
      refine gf_294 (pc := 18) C hP h0 dX8_summary_18 ?_
      refine gf_156 (pc := 21) C hP (cl_0_0 hC h0) dX8_summary_21 ?_
      refine lv_iload_n (pc := 24) hx hb dX8_summary_24 rfl (lv_at hl 1 rfl) ?_
      refine r_aald2 (pc := 25) C hP (cl_1_0 hC (cl_0_0 hC h0)) hw.1 dX8_summary_25 ?_
      have hi25 := in_lt hw.1
      replace hw := hw.2
      refine gf_144 (pc := 26) C hP (cl_2_e hC (cl_1_0 hC (cl_0_0 hC h0)) hi25) dX8_summary_26 ?_
      refine lv_iload_n (pc := 29) hx hb dX8_summary_29 rfl (lv_at hl 2 rfl) ?_
      refine r_aald6 (pc := 30) C hP (cl_3_2 hC (cl_2_e hC (cl_1_0 hC (cl_0_0 hC h0)) hi25)) hw.1 dX8_summary_30 ?_
      have hi30 := in_lt hw.1
      replace hw := hw.2
      refine lv_astore (pc := 31) (lv' := [(4, .ref (ad (7, 0, a1.toNatClampNeg, a2.toNatClampNeg))), (0, .ref (ad (0, 0, 0, 0))), (1, .int a1), (2, .int a2), (3, .int a3)]) hx hb dX8_summary_31 hl (by decide) rfl (fun ls hl => ?_)
      refine lv_iload_n (pc := 33) hx hb dX8_summary_33 rfl (lv_at hl 4 rfl) ?_
      by_cases hk0 : a3 = (0 : Int32)
      · replace hw := if_t hk0 hw
        refine lv_tableIn (pc := 34) (tgt := 68) (off := 34) hx hb dX8_summary_34 (by rw [hk0]; decide) (by rw [hk0]; decide) (by rw [hk0]; rfl) (by decide) ?_
        refine lv_aload (pc := 68) hx hb dX8_summary_68 (lv_at hl 0 rfl) ?_
        refine gf_104 (pc := 70) C hP (cl_6_e hC (cl_3_2 hC (cl_2_e hC (cl_1_0 hC (cl_0_0 hC h0)) hi25)) hi30) dX8_summary_70 ?_
        exact r_iret (pc := 73) C hP hS hw dX8_summary_73
      · replace hw := if_f hk0 hw
        by_cases hk1 : a3 = (1 : Int32)
        · replace hw := if_t hk1 hw
          refine lv_tableIn (pc := 34) (tgt := 74) (off := 40) hx hb dX8_summary_34 (by rw [hk1]; decide) (by rw [hk1]; decide) (by rw [hk1]; rfl) (by decide) ?_
          refine lv_aload (pc := 74) hx hb dX8_summary_74 (lv_at hl 0 rfl) ?_
          refine gf_107 (pc := 76) C hP (cl_6_e hC (cl_3_2 hC (cl_2_e hC (cl_1_0 hC (cl_0_0 hC h0)) hi25)) hi30) dX8_summary_76 ?_
          exact r_iret (pc := 79) C hP hS hw dX8_summary_79
        · replace hw := if_f hk1 hw
          by_cases hk2 : a3 = (2 : Int32)
          · replace hw := if_t hk2 hw
            refine lv_tableIn (pc := 34) (tgt := 80) (off := 46) hx hb dX8_summary_34 (by rw [hk2]; decide) (by rw [hk2]; decide) (by rw [hk2]; rfl) (by decide) ?_
            refine lv_aload (pc := 80) hx hb dX8_summary_80 (lv_at hl 0 rfl) ?_
            refine gf_111 (pc := 82) C hP (cl_6_e hC (cl_3_2 hC (cl_2_e hC (cl_1_0 hC (cl_0_0 hC h0)) hi25)) hi30) dX8_summary_82 ?_
            exact r_iret (pc := 85) C hP hS hw dX8_summary_85
          · replace hw := if_f hk2 hw
            by_cases hk3 : a3 = (3 : Int32)
            · replace hw := if_t hk3 hw
              refine lv_tableIn (pc := 34) (tgt := 86) (off := 52) hx hb dX8_summary_34 (by rw [hk3]; decide) (by rw [hk3]; decide) (by rw [hk3]; rfl) (by decide) ?_
              refine lv_aload (pc := 86) hx hb dX8_summary_86 (lv_at hl 0 rfl) ?_
              refine gf_115 (pc := 88) C hP (cl_6_e hC (cl_3_2 hC (cl_2_e hC (cl_1_0 hC (cl_0_0 hC h0)) hi25)) hi30) dX8_summary_88 ?_
              refine lv_if_eq (pc := 91) (tgt := 99) hx hb dX8_summary_91 (by decide) (fun h => ?_) (fun h => ?_)
              · replace hw := if_t h hw
                refine lv_aload (pc := 99) hx hb dX8_summary_99 (lv_at hl 0 rfl) ?_
                refine gf_113 (pc := 101) C hP (cl_6_e hC (cl_3_2 hC (cl_2_e hC (cl_1_0 hC (cl_0_0 hC h0)) hi25)) hi30) dX8_summary_101 ?_
                exact r_iret (pc := 104) C hP hS hw dX8_summary_104
              · replace hw := if_f h hw
                refine lv_ldc (pc := 94) (own := RX8) (v := (-2000000 : Int32)) hx hb hown (hts _ mw_411) dX8_summary_94 ?_
                refine lv_goto (pc := 96) (tgt := 104) hx hb dX8_summary_96 (by decide) ?_
                exact r_iret (pc := 104) C hP hS hw dX8_summary_104
            · replace hw := if_f hk3 hw
              by_cases hk4 : a3 = (4 : Int32)
              · replace hw := if_t hk4 hw
                refine lv_tableIn (pc := 34) (tgt := 105) (off := 71) hx hb dX8_summary_34 (by rw [hk4]; decide) (by rw [hk4]; decide) (by rw [hk4]; rfl) (by decide) ?_
                refine lv_aload_n (pc := 105) hx hb dX8_summary_105 rfl (lv_at hl 1 rfl) ?_
                refine gf_294 (pc := 106) C hP h0 dX8_summary_106 ?_
                refine gf_156 (pc := 109) C hP (cl_0_0 hC h0) dX8_summary_109 ?_
                refine lv_iload_n (pc := 112) hx hb dX8_summary_112 rfl (lv_at hl 2 rfl) ?_
                refine r_aald2 (pc := 113) C hP (cl_1_0 hC (cl_0_0 hC h0)) hw.1 dX8_summary_113 ?_
                have hi113 := in_lt hw.1
                replace hw := hw.2
                refine lv_iload_n (pc := 114) hx hb dX8_summary_114 rfl (lv_at hl 3 rfl) ?_
                refine r_cVI (pc := 115) (rest := []) (As := [.int a2]) C hl.1 hP hS (k_X0_isStale l G hC (cl_2_e hC (cl_1_0 hC (cl_0_0 hC h0)) hi113) hw) (cl_2_e hC (cl_1_0 hC (cl_0_0 hC h0)) hi113) rfl rfl mw_412 mw_382 mw_383 mw_58 mw_384 ⟨rfl, rfl⟩ hd_X0_isStale rfl rfl ⟨Nat.le_of_ble_eq_true rfl, Nat.le_of_ble_eq_true rfl⟩ (Nat.le_of_ble_eq_true rfl) ⟨Nat.zero_le _, Nat.zero_le _⟩ dX8_summary_115 (fun r115 M115 H locs hw hP hS => ?_)
                refine lv_if_eq (pc := 118) (tgt := 125) hx hb dX8_summary_118 (by decide) (fun h => ?_) (fun h => ?_)
                · replace hw := if_t h hw
                  refine lv_iconst (pc := 125) (v := (0 : Int32)) hx hb dX8_summary_125 (by decide) ?_
                  exact r_iret (pc := 126) C hP hS hw dX8_summary_126
                · replace hw := if_f h hw
                  refine lv_iconst (pc := 121) (v := (1 : Int32)) hx hb dX8_summary_121 (by decide) ?_
                  refine lv_goto (pc := 122) (tgt := 126) hx hb dX8_summary_122 (by decide) ?_
                  exact r_iret (pc := 126) C hP hS hw dX8_summary_126
              · replace hw := if_f hk4 hw
                refine lv_tableOut (pc := 34) (tgt := 127) hx hb dX8_summary_34 (by have q0 := lv_neT (a := 0) hk0 rfl; have q1 := lv_neT (a := 1) hk1 rfl; have q2 := lv_neT (a := 2) hk2 rfl; have q3 := lv_neT (a := 3) hk3 rfl; have q4 := lv_neT (a := 4) hk4 rfl; omega) (by decide) ?_
                refine lv_ldc (pc := 127) (own := RX8) (v := (-3000002 : Int32)) hx hb hown (hts _ mw_413) dX8_summary_127 ?_
                exact r_iret (pc := 129) C hP hS hw dX8_summary_129
    · replace hw := if_t h hw
      refine lv_ldc (pc := 14) (own := RX8) (v := (-3000001 : Int32)) hx hb hown (hts _ mw_406) dX8_summary_14 ?_
      exact r_iret (pc := 16) C hP hS hw dX8_summary_16
end
theorem k_X8_summary (l : Launch) (G : GG) {I : ix → Prop} {ad : ix → Nat} (hC : clo I) {a1 : Int32} {a2 : Int32} {a3 : Int32} (h0 : I (0, 0, 0, 0)) {Q : Int32 → Mem → Prop} {M : Mem} (hw : w_X8_summary a1 a2 a3 Q M) : Met l yX8_summary (wW yX8_summary cX8_summary 5 (some .int)) rm_X8_summary (va_Pc [.ref (ad (0, 0, 0, 0)), .int a1, .int a2, .int a3] (fun U => wd G I ad M U.heap ∧ wK G U)) (qI G I ad Q) 0 0 (fA I ad) := met_of (by decide +kernel) (Nat.le_of_ble_eq_true rfl) (fun p e s m below meth c C hP hS ls hl => j_X8_summary_0 C hC h0 _ _ _ _ hw hP hS hl)
section
variable {p : Program} {l : Launch} {e : Env} {s : State} {m : MethodId} {args : Array Value} {below : List Frame} {meth : Method} {c : Code} 
variable  {G : GG} {I : ix → Prop} {ad : ix → Nat}
set_option maxHeartbeats 4000000 in
set_option maxRecDepth 100000 in
theorem j_X8_listed_0 {a1 : Int32} {a2 : Int32} {a3 : Int32} {a4 : Int32} (C : cx p s m args meth c cX8_listed 6 (some .int) RX8 G) (hC : clo I) (h0 : I (0, 0, 0, 0)) {Q : Int32 → Mem → Prop} : ∀ (M : Mem) (H : Heap) (locs : List Loc) (ls : Array Slot), w_X8_listed a1 a2 a3 a4 Q M → wd G I ad M H → va_S (fA I ad) s.heap H locs → lv_has ls 6 [(0, .ref (ad (0, 0, 0, 0))), (1, .int a1), (2, .int a2), (3, .int a3), (4, .int a4)] → W p l e rm_X8_listed s m args below meth c H locs 0 0 (MQ below (qI G I ad Q) args s 0 0 (fA I ad)) (F0 m 0 ls []) := by
  have hx := C.1
  have hb := C.2.1
  have hown := C.2.2.2.1
  have hts := C.2.2.2.2.1
  intro M H locs ls hw hP hS hl
  unfold w_X8_listed at hw
  refine lv_iload_n (pc := 0) hx hb dX8_listed_0 rfl (lv_at hl 1 rfl) ?_
  refine r_cSI (pc := 1) (rest := []) (As := [.int a1]) C hl.1 hP hS (k_X8_isBlock l G hC  hw) mw_326 mw_327 mw_56 mw_328 ⟨rfl, rfl⟩ hd_X8_isBlock rfl rfl ⟨Nat.le_of_ble_eq_true rfl, Nat.le_of_ble_eq_true rfl⟩ (Nat.le_of_ble_eq_true rfl) ⟨Nat.zero_le _, Nat.zero_le _⟩ dX8_listed_1 (fun r1 M1 H locs hw hP hS => ?_)
  refine lv_if_eq (pc := 4) (tgt := 14) hx hb dX8_listed_4 (by decide) (fun h => ?_) (fun h => ?_)
  · replace hw := if_t h hw
    refine lv_ldc (pc := 14) (own := RX8) (v := (-3000001 : Int32)) hx hb hown (hts _ mw_406) dX8_listed_14 ?_
    exact r_iret (pc := 16) C hP hS hw dX8_listed_16
  · replace hw := if_f h hw
    refine lv_iload_n (pc := 7) hx hb dX8_listed_7 rfl (lv_at hl 2 rfl) ?_
    refine r_cSI (pc := 8) (rest := []) (As := [.int a2]) C hl.1 hP hS (k_X8_isColumn l G hC  hw) mw_403 mw_404 mw_56 mw_405 ⟨rfl, rfl⟩ hd_X8_isColumn rfl rfl ⟨Nat.le_of_ble_eq_true rfl, Nat.le_of_ble_eq_true rfl⟩ (Nat.le_of_ble_eq_true rfl) ⟨Nat.zero_le _, Nat.zero_le _⟩ dX8_listed_8 (fun r8 M8 H locs hw hP hS => ?_)
    refine lv_if_ne (pc := 11) (tgt := 17) hx hb dX8_listed_11 (by decide) (fun h => ?_) (fun h => ?_)
    · replace hw := if_f h hw
      refine lv_iload (pc := 17) hx hb dX8_listed_17 (lv_at hl 4 rfl) ?_
      refine lv_if_eq (pc := 19) (tgt := 31) hx hb dX8_listed_19 (by decide) (fun h => ?_) (fun h => ?_)
      · replace hw := if_t h hw
        refine lv_aload_n (pc := 31) hx hb dX8_listed_31 rfl (lv_at hl 0 rfl) ?_
        refine gf_294 (pc := 32) C hP h0 dX8_listed_32 ?_
        refine gf_156 (pc := 35) C hP (cl_0_0 hC h0) dX8_listed_35 ?_
        refine lv_iload_n (pc := 38) hx hb dX8_listed_38 rfl (lv_at hl 1 rfl) ?_
        refine r_aald2 (pc := 39) C hP (cl_1_0 hC (cl_0_0 hC h0)) hw.1 dX8_listed_39 ?_
        have hi39 := in_lt hw.1
        replace hw := hw.2
        refine gf_144 (pc := 40) C hP (cl_2_e hC (cl_1_0 hC (cl_0_0 hC h0)) hi39) dX8_listed_40 ?_
        refine lv_iload_n (pc := 43) hx hb dX8_listed_43 rfl (lv_at hl 2 rfl) ?_
        refine r_aald6 (pc := 44) C hP (cl_3_2 hC (cl_2_e hC (cl_1_0 hC (cl_0_0 hC h0)) hi39)) hw.1 dX8_listed_44 ?_
        have hi44 := in_lt hw.1
        replace hw := hw.2
        refine lv_astore (pc := 45) (lv' := [(5, .ref (ad (7, 0, a1.toNatClampNeg, a2.toNatClampNeg))), (0, .ref (ad (0, 0, 0, 0))), (1, .int a1), (2, .int a2), (3, .int a3), (4, .int a4)]) hx hb dX8_listed_45 hl (by decide) rfl (fun ls hl => ?_)
        refine lv_aload (pc := 47) hx hb dX8_listed_47 (lv_at hl 0 rfl) ?_
        refine gf_115 (pc := 49) C hP (cl_6_e hC (cl_3_2 hC (cl_2_e hC (cl_1_0 hC (cl_0_0 hC h0)) hi39)) hi44) dX8_listed_49 ?_
        refine lv_if_ne (pc := 52) (tgt := 68) hx hb dX8_listed_52 (by decide) (fun h => ?_) (fun h => ?_)
        · replace hw := if_f h hw
          refine lv_ldc (pc := 68) (own := RX8) (v := (-2000000 : Int32)) hx hb hown (hts _ mw_411) dX8_listed_68 ?_
          exact r_iret (pc := 70) C hP hS hw dX8_listed_70
        · replace hw := if_t h hw
          refine lv_iload_n (pc := 55) hx hb dX8_listed_55 rfl (lv_at hl 4 rfl) ?_
          refine lv_if_lt (pc := 56) (tgt := 68) hx hb dX8_listed_56 (by decide) (fun h => ?_) (fun h => ?_)
          · replace hw := if_t h hw
            refine lv_ldc (pc := 68) (own := RX8) (v := (-2000000 : Int32)) hx hb hown (hts _ mw_411) dX8_listed_68 ?_
            exact r_iret (pc := 70) C hP hS hw dX8_listed_70
          · replace hw := if_f h hw
            refine lv_iload_n (pc := 59) hx hb dX8_listed_59 rfl (lv_at hl 4 rfl) ?_
            refine lv_aload (pc := 60) hx hb dX8_listed_60 (lv_at hl 0 rfl) ?_
            refine gf_113 (pc := 62) C hP (cl_6_e hC (cl_3_2 hC (cl_2_e hC (cl_1_0 hC (cl_0_0 hC h0)) hi39)) hi44) dX8_listed_62 ?_
            refine lv_icmp_lt (pc := 65) (tgt := 71) hx hb dX8_listed_65 (by decide) (fun h => ?_) (fun h => ?_)
            · replace hw := if_t h hw
              refine lv_iload (pc := 71) hx hb dX8_listed_71 (lv_at hl 5 rfl) ?_
              refine lv_if_ne (pc := 73) (tgt := 86) hx hb dX8_listed_73 (by decide) (fun h => ?_) (fun h => ?_)
              · replace hw := if_f h hw
                refine lv_aload (pc := 86) hx hb dX8_listed_86 (lv_at hl 0 rfl) ?_
                refine gf_119 (pc := 88) C hP (cl_6_e hC (cl_3_2 hC (cl_2_e hC (cl_1_0 hC (cl_0_0 hC h0)) hi39)) hi44) dX8_listed_88 ?_
                refine lv_iload_n (pc := 91) hx hb dX8_listed_91 rfl (lv_at hl 4 rfl) ?_
                refine r_ialdK (pc := 92) (n := 4) (k := a3.toNatClampNeg) C hP (cl_7_6 hC (cl_6_e hC (cl_3_2 hC (cl_2_e hC (cl_1_0 hC (cl_0_0 hC h0)) hi39)) hi44)) (fun _ _ _ _ => rfl) hw.1 rfl dX8_listed_92 ?_
                replace hw := hw.2
                exact r_iret (pc := 93) C hP hS hw dX8_listed_93
              · replace hw := if_t h hw
                refine lv_aload (pc := 76) hx hb dX8_listed_76 (lv_at hl 0 rfl) ?_
                refine gf_117 (pc := 78) C hP (cl_6_e hC (cl_3_2 hC (cl_2_e hC (cl_1_0 hC (cl_0_0 hC h0)) hi39)) hi44) dX8_listed_78 ?_
                refine lv_iload_n (pc := 81) hx hb dX8_listed_81 rfl (lv_at hl 4 rfl) ?_
                refine r_ialdK (pc := 82) (n := 4) (k := a3.toNatClampNeg) C hP (cl_7_5 hC (cl_6_e hC (cl_3_2 hC (cl_2_e hC (cl_1_0 hC (cl_0_0 hC h0)) hi39)) hi44)) (fun _ _ _ _ => rfl) hw.1 rfl dX8_listed_82 ?_
                replace hw := hw.2
                refine lv_goto (pc := 83) (tgt := 93) hx hb dX8_listed_83 (by decide) ?_
                exact r_iret (pc := 93) C hP hS hw dX8_listed_93
            · replace hw := if_f h hw
              refine lv_ldc (pc := 68) (own := RX8) (v := (-2000000 : Int32)) hx hb hown (hts _ mw_411) dX8_listed_68 ?_
              exact r_iret (pc := 70) C hP hS hw dX8_listed_70
      · replace hw := if_f h hw
        refine lv_iload (pc := 22) hx hb dX8_listed_22 (lv_at hl 4 rfl) ?_
        refine lv_iconst (pc := 24) (v := (1 : Int32)) hx hb dX8_listed_24 (by decide) ?_
        refine lv_icmp_eq (pc := 25) (tgt := 31) hx hb dX8_listed_25 (by decide) (fun h => ?_) (fun h => ?_)
        · replace hw := if_t h hw
          refine lv_aload_n (pc := 31) hx hb dX8_listed_31 rfl (lv_at hl 0 rfl) ?_
          refine gf_294 (pc := 32) C hP h0 dX8_listed_32 ?_
          refine gf_156 (pc := 35) C hP (cl_0_0 hC h0) dX8_listed_35 ?_
          refine lv_iload_n (pc := 38) hx hb dX8_listed_38 rfl (lv_at hl 1 rfl) ?_
          refine r_aald2 (pc := 39) C hP (cl_1_0 hC (cl_0_0 hC h0)) hw.1 dX8_listed_39 ?_
          have hi39 := in_lt hw.1
          replace hw := hw.2
          refine gf_144 (pc := 40) C hP (cl_2_e hC (cl_1_0 hC (cl_0_0 hC h0)) hi39) dX8_listed_40 ?_
          refine lv_iload_n (pc := 43) hx hb dX8_listed_43 rfl (lv_at hl 2 rfl) ?_
          refine r_aald6 (pc := 44) C hP (cl_3_2 hC (cl_2_e hC (cl_1_0 hC (cl_0_0 hC h0)) hi39)) hw.1 dX8_listed_44 ?_
          have hi44 := in_lt hw.1
          replace hw := hw.2
          refine lv_astore (pc := 45) (lv' := [(5, .ref (ad (7, 0, a1.toNatClampNeg, a2.toNatClampNeg))), (0, .ref (ad (0, 0, 0, 0))), (1, .int a1), (2, .int a2), (3, .int a3), (4, .int a4)]) hx hb dX8_listed_45 hl (by decide) rfl (fun ls hl => ?_)
          refine lv_aload (pc := 47) hx hb dX8_listed_47 (lv_at hl 0 rfl) ?_
          refine gf_115 (pc := 49) C hP (cl_6_e hC (cl_3_2 hC (cl_2_e hC (cl_1_0 hC (cl_0_0 hC h0)) hi39)) hi44) dX8_listed_49 ?_
          refine lv_if_ne (pc := 52) (tgt := 68) hx hb dX8_listed_52 (by decide) (fun h => ?_) (fun h => ?_)
          · replace hw := if_f h hw
            refine lv_ldc (pc := 68) (own := RX8) (v := (-2000000 : Int32)) hx hb hown (hts _ mw_411) dX8_listed_68 ?_
            exact r_iret (pc := 70) C hP hS hw dX8_listed_70
          · replace hw := if_t h hw
            refine lv_iload_n (pc := 55) hx hb dX8_listed_55 rfl (lv_at hl 4 rfl) ?_
            refine lv_if_lt (pc := 56) (tgt := 68) hx hb dX8_listed_56 (by decide) (fun h => ?_) (fun h => ?_)
            · replace hw := if_t h hw
              refine lv_ldc (pc := 68) (own := RX8) (v := (-2000000 : Int32)) hx hb hown (hts _ mw_411) dX8_listed_68 ?_
              exact r_iret (pc := 70) C hP hS hw dX8_listed_70
            · replace hw := if_f h hw
              refine lv_iload_n (pc := 59) hx hb dX8_listed_59 rfl (lv_at hl 4 rfl) ?_
              refine lv_aload (pc := 60) hx hb dX8_listed_60 (lv_at hl 0 rfl) ?_
              refine gf_113 (pc := 62) C hP (cl_6_e hC (cl_3_2 hC (cl_2_e hC (cl_1_0 hC (cl_0_0 hC h0)) hi39)) hi44) dX8_listed_62 ?_
              refine lv_icmp_lt (pc := 65) (tgt := 71) hx hb dX8_listed_65 (by decide) (fun h => ?_) (fun h => ?_)
              · replace hw := if_t h hw
                refine lv_iload (pc := 71) hx hb dX8_listed_71 (lv_at hl 5 rfl) ?_
                refine lv_if_ne (pc := 73) (tgt := 86) hx hb dX8_listed_73 (by decide) (fun h => ?_) (fun h => ?_)
                · replace hw := if_f h hw
                  refine lv_aload (pc := 86) hx hb dX8_listed_86 (lv_at hl 0 rfl) ?_
                  refine gf_119 (pc := 88) C hP (cl_6_e hC (cl_3_2 hC (cl_2_e hC (cl_1_0 hC (cl_0_0 hC h0)) hi39)) hi44) dX8_listed_88 ?_
                  refine lv_iload_n (pc := 91) hx hb dX8_listed_91 rfl (lv_at hl 4 rfl) ?_
                  refine r_ialdK (pc := 92) (n := 4) (k := a3.toNatClampNeg) C hP (cl_7_6 hC (cl_6_e hC (cl_3_2 hC (cl_2_e hC (cl_1_0 hC (cl_0_0 hC h0)) hi39)) hi44)) (fun _ _ _ _ => rfl) hw.1 rfl dX8_listed_92 ?_
                  replace hw := hw.2
                  exact r_iret (pc := 93) C hP hS hw dX8_listed_93
                · replace hw := if_t h hw
                  refine lv_aload (pc := 76) hx hb dX8_listed_76 (lv_at hl 0 rfl) ?_
                  refine gf_117 (pc := 78) C hP (cl_6_e hC (cl_3_2 hC (cl_2_e hC (cl_1_0 hC (cl_0_0 hC h0)) hi39)) hi44) dX8_listed_78 ?_
                  refine lv_iload_n (pc := 81) hx hb dX8_listed_81 rfl (lv_at hl 4 rfl) ?_
                  refine r_ialdK (pc := 82) (n := 4) (k := a3.toNatClampNeg) C hP (cl_7_5 hC (cl_6_e hC (cl_3_2 hC (cl_2_e hC (cl_1_0 hC (cl_0_0 hC h0)) hi39)) hi44)) (fun _ _ _ _ => rfl) hw.1 rfl dX8_listed_82 ?_
                  replace hw := hw.2
                  refine lv_goto (pc := 83) (tgt := 93) hx hb dX8_listed_83 (by decide) ?_
                  exact r_iret (pc := 93) C hP hS hw dX8_listed_93
              · replace hw := if_f h hw
                refine lv_ldc (pc := 68) (own := RX8) (v := (-2000000 : Int32)) hx hb hown (hts _ mw_411) dX8_listed_68 ?_
                exact r_iret (pc := 70) C hP hS hw dX8_listed_70
        · replace hw := if_f h hw
          refine lv_ldc (pc := 28) (own := RX8) (v := (-3000002 : Int32)) hx hb hown (hts _ mw_413) dX8_listed_28 ?_
          exact r_iret (pc := 30) C hP hS hw dX8_listed_30
    · replace hw := if_t h hw
      refine lv_ldc (pc := 14) (own := RX8) (v := (-3000001 : Int32)) hx hb hown (hts _ mw_406) dX8_listed_14 ?_
      exact r_iret (pc := 16) C hP hS hw dX8_listed_16
end
theorem k_X8_listed (l : Launch) (G : GG) {I : ix → Prop} {ad : ix → Nat} (hC : clo I) {a1 : Int32} {a2 : Int32} {a3 : Int32} {a4 : Int32} (h0 : I (0, 0, 0, 0)) {Q : Int32 → Mem → Prop} {M : Mem} (hw : w_X8_listed a1 a2 a3 a4 Q M) : Met l yX8_listed (wW yX8_listed cX8_listed 6 (some .int)) rm_X8_listed (va_Pc [.ref (ad (0, 0, 0, 0)), .int a1, .int a2, .int a3, .int a4] (fun U => wd G I ad M U.heap ∧ wK G U)) (qI G I ad Q) 0 0 (fA I ad) := met_of (by decide +kernel) (Nat.le_of_ble_eq_true rfl) (fun p e s m below meth c C hP hS ls hl => j_X8_listed_0 C hC h0 _ _ _ _ hw hP hS hl)
section
variable {p : Program} {l : Launch} {e : Env} {s : State} {m : MethodId} {args : Array Value} {below : List Frame} {meth : Method} {c : Code} 
variable  {G : GG} {I : ix → Prop} {ad : ix → Nat}
set_option maxHeartbeats 4000000 in
set_option maxRecDepth 100000 in
theorem j_X8_say_0 {a1 : Int32} (C : cx p s m args meth c cX8_say 2 (some .int) RX8 G) (hC : clo I) (h0 : I (0, 0, 0, 0)) {Q : Int32 → Mem → Prop} : ∀ (M : Mem) (H : Heap) (locs : List Loc) (ls : Array Slot), w_X8_say a1 Q M → wd G I ad M H → va_S (fA I ad) s.heap H locs → lv_has ls 2 [(0, .ref (ad (0, 0, 0, 0))), (1, .int a1)] → W p l e rm_X8_say s m args below meth c H locs 0 0 (MQ below (qI G I ad Q) args s 0 0 (fA I ad)) (F0 m 0 ls []) := by
  have hx := C.1
  have hb := C.2.1
  have hown := C.2.2.2.1
  have hts := C.2.2.2.2.1
  intro M H locs ls hw hP hS hl
  unfold w_X8_say at hw
  refine lv_iload_n (pc := 0) hx hb dX8_say_0 rfl (lv_at hl 1 rfl) ?_
  refine lv_bipush (pc := 1) (v := (33 : Int32)) hx hb dX8_say_1 (by decide) ?_
  refine lv_icmp_lt (pc := 3) (tgt := 12) hx hb dX8_say_3 (by decide) (fun h => ?_) (fun h => ?_)
  · replace hw := if_t h hw
    refine lv_bipush (pc := 12) (v := (-2 : Int32)) hx hb dX8_say_12 (by decide) ?_
    exact r_iret (pc := 14) C hP hS hw dX8_say_14
  · replace hw := if_f h hw
    refine lv_iload_n (pc := 6) hx hb dX8_say_6 rfl (lv_at hl 1 rfl) ?_
    refine lv_bipush (pc := 7) (v := (126 : Int32)) hx hb dX8_say_7 (by decide) ?_
    refine lv_icmp_le (pc := 9) (tgt := 15) hx hb dX8_say_9 (by decide) (fun h => ?_) (fun h => ?_)
    · replace hw := if_t h hw
      refine lv_aload_n (pc := 15) hx hb dX8_say_15 rfl (lv_at hl 0 rfl) ?_
      refine gf_296 (pc := 16) C hP h0 dX8_say_16 ?_
      refine lv_iload_n (pc := 19) hx hb dX8_say_19 rfl (lv_at hl 1 rfl) ?_
      refine r_cVI (pc := 20) (rest := []) (As := [.int a1]) C hl.1 hP hS (k_X1_append l G hC (cl_0_2 hC h0) hw) (cl_0_2 hC h0) rfl rfl mw_422 mw_423 mw_424 mw_60 mw_425 ⟨rfl, rfl⟩ hd_X1_append rfl rfl ⟨Nat.le_of_ble_eq_true rfl, Nat.le_of_ble_eq_true rfl⟩ (Nat.le_of_ble_eq_true rfl) ⟨Nat.zero_le _, Nat.zero_le _⟩ dX8_say_20 (fun r20 M20 H locs hw hP hS => ?_)
      exact r_iret (pc := 23) C hP hS hw dX8_say_23
    · replace hw := if_f h hw
      refine lv_bipush (pc := 12) (v := (-2 : Int32)) hx hb dX8_say_12 (by decide) ?_
      exact r_iret (pc := 14) C hP hS hw dX8_say_14
end
theorem k_X8_say (l : Launch) (G : GG) {I : ix → Prop} {ad : ix → Nat} (hC : clo I) {a1 : Int32} (h0 : I (0, 0, 0, 0)) {Q : Int32 → Mem → Prop} {M : Mem} (hw : w_X8_say a1 Q M) : Met l yX8_say (wW yX8_say cX8_say 2 (some .int)) rm_X8_say (va_Pc [.ref (ad (0, 0, 0, 0)), .int a1] (fun U => wd G I ad M U.heap ∧ wK G U)) (qI G I ad Q) 0 0 (fA I ad) := met_of (by decide +kernel) (Nat.le_of_ble_eq_true rfl) (fun p e s m below meth c C hP hS ls hl => j_X8_say_0 C hC h0 _ _ _ _ hw hP hS hl)
section
variable {p : Program} {l : Launch} {e : Env} {s : State} {m : MethodId} {args : Array Value} {below : List Frame} {meth : Method} {c : Code} 
variable  {G : GG} {I : ix → Prop} {ad : ix → Nat}
set_option maxHeartbeats 4000000 in
set_option maxRecDepth 100000 in
theorem j_X8_wipe_0 (C : cx p s m args meth c cX8_wipe 2 (some .int) RX8 G) (hC : clo I) (h0 : I (0, 0, 0, 0)) {Q : Int32 → Mem → Prop} : ∀ (M : Mem) (H : Heap) (locs : List Loc) (ls : Array Slot), w_X8_wipe Q M → wd G I ad M H → va_S (fA I ad) s.heap H locs → lv_has ls 2 [(0, .ref (ad (0, 0, 0, 0)))] → W p l e rm_X8_wipe s m args below meth c H locs 0 0 (MQ below (qI G I ad Q) args s 0 0 (fA I ad)) (F0 m 0 ls []) := by
  have hx := C.1
  have hb := C.2.1
  have hown := C.2.2.2.1
  have hts := C.2.2.2.2.1
  intro M H locs ls hw hP hS hl
  unfold w_X8_wipe at hw
  refine lv_aload_n (pc := 0) hx hb dX8_wipe_0 rfl (lv_at hl 0 rfl) ?_
  refine gf_296 (pc := 1) C hP h0 dX8_wipe_1 ?_
  refine gf_179 (pc := 4) C hP (cl_0_2 hC h0) dX8_wipe_4 ?_
  refine lv_topi (fun x1_7 ex1_7 => ?_)
  replace hw := hw x1_7 ex1_7
  refine lv_istore_n (pc := 7) (lv' := [(1, .int x1_7), (0, .ref (ad (0, 0, 0, 0)))]) hx hb dX8_wipe_7 rfl hl (by decide) rfl (fun ls hl => ?_)
  refine lv_aload_n (pc := 8) hx hb dX8_wipe_8 rfl (lv_at hl 1 rfl) ?_
  refine gf_296 (pc := 9) C hP h0 dX8_wipe_9 ?_
  refine r_cVV (pc := 12) (rest := []) (As := []) C hl.1 hP hS (k_X1_clear l G hC (cl_0_2 hC h0) hw) (cl_0_2 hC h0) rfl rfl mw_473 mw_168 mw_169 mw_60 mw_170 ⟨rfl, rfl⟩ hd_X1_clear rfl rfl ⟨Nat.le_of_ble_eq_true rfl, Nat.le_of_ble_eq_true rfl⟩ (Nat.le_of_ble_eq_true rfl) ⟨Nat.zero_le _, Nat.zero_le _⟩ dX8_wipe_12 (fun M12 H locs hw hP hS => ?_)
  refine lv_iload_n (pc := 15) hx hb dX8_wipe_15 rfl (lv_at hl 0 rfl) ?_
  exact r_iret (pc := 16) C hP hS hw dX8_wipe_16
end
theorem k_X8_wipe (l : Launch) (G : GG) {I : ix → Prop} {ad : ix → Nat} (hC : clo I) (h0 : I (0, 0, 0, 0)) {Q : Int32 → Mem → Prop} {M : Mem} (hw : w_X8_wipe Q M) : Met l yX8_wipe (wW yX8_wipe cX8_wipe 2 (some .int)) rm_X8_wipe (va_Pc [.ref (ad (0, 0, 0, 0))] (fun U => wd G I ad M U.heap ∧ wK G U)) (qI G I ad Q) 0 0 (fA I ad) := met_of (by decide +kernel) (Nat.le_of_ble_eq_true rfl) (fun p e s m below meth c C hP hS ls hl => j_X8_wipe_0 C hC h0 _ _ _ _ hw hP hS hl)
section
variable {p : Program} {l : Launch} {e : Env} {s : State} {m : MethodId} {args : Array Value} {below : List Frame} {meth : Method} {c : Code} 
variable  {G : GG} {I : ix → Prop} {ad : ix → Nat}
set_option maxHeartbeats 4000000 in
set_option maxRecDepth 100000 in
theorem j_X8_fault_0 (C : cx p s m args meth c cX8_fault 1 (some .int) RX8 G) (hC : clo I) (h0 : I (0, 0, 0, 0)) {Q : Int32 → Mem → Prop} : ∀ (M : Mem) (H : Heap) (locs : List Loc) (ls : Array Slot), w_X8_fault Q M → wd G I ad M H → va_S (fA I ad) s.heap H locs → lv_has ls 1 [(0, .ref (ad (0, 0, 0, 0)))] → W p l e rm_X8_fault s m args below meth c H locs 0 0 (MQ below (qI G I ad Q) args s 0 0 (fA I ad)) (F0 m 0 ls []) := by
  have hx := C.1
  have hb := C.2.1
  have hown := C.2.2.2.1
  have hts := C.2.2.2.2.1
  intro M H locs ls hw hP hS hl
  unfold w_X8_fault at hw
  refine lv_aload_n (pc := 0) hx hb dX8_fault_0 rfl (lv_at hl 0 rfl) ?_
  refine gf_296 (pc := 1) C hP h0 dX8_fault_1 ?_
  refine r_cVI (pc := 4) (rest := []) (As := []) C hl.1 hP hS (k_X1_faultPlace l G hC (cl_0_2 hC h0) hw) (cl_0_2 hC h0) rfl rfl mw_478 mw_479 mw_480 mw_60 mw_481 ⟨rfl, rfl⟩ hd_X1_faultPlace rfl rfl ⟨Nat.le_of_ble_eq_true rfl, Nat.le_of_ble_eq_true rfl⟩ (Nat.le_of_ble_eq_true rfl) ⟨Nat.zero_le _, Nat.zero_le _⟩ dX8_fault_4 (fun r4 M4 H locs hw hP hS => ?_)
  exact r_iret (pc := 7) C hP hS hw dX8_fault_7
end
theorem k_X8_fault (l : Launch) (G : GG) {I : ix → Prop} {ad : ix → Nat} (hC : clo I) (h0 : I (0, 0, 0, 0)) {Q : Int32 → Mem → Prop} {M : Mem} (hw : w_X8_fault Q M) : Met l yX8_fault (wW yX8_fault cX8_fault 1 (some .int)) rm_X8_fault (va_Pc [.ref (ad (0, 0, 0, 0))] (fun U => wd G I ad M U.heap ∧ wK G U)) (qI G I ad Q) 0 0 (fA I ad) := met_of (by decide +kernel) (Nat.le_of_ble_eq_true rfl) (fun p e s m below meth c C hP hS ls hl => j_X8_fault_0 C hC h0 _ _ _ _ hw hP hS hl)
section
variable {p : Program} {l : Launch} {e : Env} {s : State} {m : MethodId} {args : Array Value} {below : List Frame} {meth : Method} {c : Code} 
variable  {G : GG} {I : ix → Prop} {ad : ix → Nat}
set_option maxHeartbeats 4000000 in
set_option maxRecDepth 100000 in
theorem j_X8_truth_0 {a1 : Int32} {a2 : Int32} (C : cx p s m args meth c cX8_truth 3 (some .int) RX8 G) (hC : clo I) (h0 : I (0, 0, 0, 0)) {Q : Int32 → Mem → Prop} : ∀ (M : Mem) (H : Heap) (locs : List Loc) (ls : Array Slot), w_X8_truth a1 a2 Q M → wd G I ad M H → va_S (fA I ad) s.heap H locs → lv_has ls 3 [(0, .ref (ad (0, 0, 0, 0))), (1, .int a1), (2, .int a2)] → W p l e rm_X8_truth s m args below meth c H locs 0 0 (MQ below (qI G I ad Q) args s 0 0 (fA I ad)) (F0 m 0 ls []) := by
  have hx := C.1
  have hb := C.2.1
  have hown := C.2.2.2.1
  have hts := C.2.2.2.2.1
  intro M H locs ls hw hP hS hl
  unfold w_X8_truth at hw
  refine lv_aload_n (pc := 0) hx hb dX8_truth_0 rfl (lv_at hl 0 rfl) ?_
  refine lv_iload_n (pc := 1) hx hb dX8_truth_1 rfl (lv_at hl 1 rfl) ?_
  refine lv_iload_n (pc := 2) hx hb dX8_truth_2 rfl (lv_at hl 2 rfl) ?_
  refine r_cVI (pc := 3) (rest := []) (As := [.int a1, .int a2]) C hl.1 hP hS (k_X8_isRow l G hC h0 hw) h0 rfl rfl mw_358 mw_360 mw_3 mw_56 mw_361 ⟨rfl, rfl⟩ hd_X8_isRow rfl rfl ⟨Nat.le_of_ble_eq_true rfl, Nat.le_of_ble_eq_true rfl⟩ (Nat.le_of_ble_eq_true rfl) ⟨Nat.zero_le _, Nat.zero_le _⟩ dX8_truth_3 (fun r3 M3 H locs hw hP hS => ?_)
  refine lv_if_ne (pc := 6) (tgt := 11) hx hb dX8_truth_6 (by decide) (fun h => ?_) (fun h => ?_)
  · replace hw := if_f h hw
    refine lv_aload_n (pc := 11) hx hb dX8_truth_11 rfl (lv_at hl 0 rfl) ?_
    refine gf_296 (pc := 12) C hP h0 dX8_truth_12 ?_
    refine r_cVI (pc := 15) (rest := []) (As := []) C hl.1 hP hS (k_X1_isFaulty l G hC (cl_0_2 hC h0) hw) (cl_0_2 hC h0) rfl rfl mw_486 mw_445 mw_446 mw_60 mw_447 ⟨rfl, rfl⟩ hd_X1_isFaulty rfl rfl ⟨Nat.le_of_ble_eq_true rfl, Nat.le_of_ble_eq_true rfl⟩ (Nat.le_of_ble_eq_true rfl) ⟨Nat.zero_le _, Nat.zero_le _⟩ dX8_truth_15 (fun r15 M15 H locs hw hP hS => ?_)
    refine lv_if_eq (pc := 18) (tgt := 24) hx hb dX8_truth_18 (by decide) (fun h => ?_) (fun h => ?_)
    · replace hw := if_t h hw
      refine lv_aload_n (pc := 24) hx hb dX8_truth_24 rfl (lv_at hl 0 rfl) ?_
      refine gf_297 (pc := 25) C hP h0 dX8_truth_25 ?_
      refine lv_aload_n (pc := 28) hx hb dX8_truth_28 rfl (lv_at hl 0 rfl) ?_
      refine gf_294 (pc := 29) C hP h0 dX8_truth_29 ?_
      refine gf_156 (pc := 32) C hP (cl_0_0 hC h0) dX8_truth_32 ?_
      refine lv_iload_n (pc := 35) hx hb dX8_truth_35 rfl (lv_at hl 1 rfl) ?_
      refine r_aald2 (pc := 36) C hP (cl_1_0 hC (cl_0_0 hC h0)) hw.1 dX8_truth_36 ?_
      have hi36 := in_lt hw.1
      replace hw := hw.2
      refine gf_141 (pc := 37) C hP (cl_2_e hC (cl_1_0 hC (cl_0_0 hC h0)) hi36) dX8_truth_37 ?_
      refine lv_iload_n (pc := 40) hx hb dX8_truth_40 rfl (lv_at hl 2 rfl) ?_
      refine r_aald4 (pc := 41) C hP (cl_3_1 hC (cl_2_e hC (cl_1_0 hC (cl_0_0 hC h0)) hi36)) hw.1 dX8_truth_41 ?_
      have hi41 := in_lt hw.1
      replace hw := hw.2
      refine r_cVI (pc := 42) (rest := []) (As := [.ref (ad (5, 0, a1.toNatClampNeg, a2.toNatClampNeg))]) C hl.1 hP hS (k_X3_judge l G hC (cl_0_3 hC h0) (cl_4_e hC (cl_3_1 hC (cl_2_e hC (cl_1_0 hC (cl_0_0 hC h0)) hi36)) hi41) (fun _ _ _ _ => rfl) hw) (cl_0_3 hC h0) rfl rfl mw_487 mw_488 mw_489 mw_61 mw_490 ⟨rfl, rfl⟩ hd_X3_judge rfl rfl ⟨Nat.le_of_ble_eq_true rfl, Nat.le_of_ble_eq_true rfl⟩ (Nat.le_of_ble_eq_true rfl) ⟨Nat.zero_le _, Nat.zero_le _⟩ dX8_truth_42 (fun r42 M42 H locs hw hP hS => ?_)
      exact r_iret (pc := 45) C hP hS hw dX8_truth_45
    · replace hw := if_f h hw
      refine lv_bipush (pc := 21) (v := (-5 : Int32)) hx hb dX8_truth_21 (by decide) ?_
      exact r_iret (pc := 23) C hP hS hw dX8_truth_23
  · replace hw := if_t h hw
    refine lv_iconst (pc := 9) (v := (-1 : Int32)) hx hb dX8_truth_9 (by decide) ?_
    exact r_iret (pc := 10) C hP hS hw dX8_truth_10
end
theorem k_X8_truth (l : Launch) (G : GG) {I : ix → Prop} {ad : ix → Nat} (hC : clo I) {a1 : Int32} {a2 : Int32} (h0 : I (0, 0, 0, 0)) {Q : Int32 → Mem → Prop} {M : Mem} (hw : w_X8_truth a1 a2 Q M) : Met l yX8_truth (wW yX8_truth cX8_truth 3 (some .int)) rm_X8_truth (va_Pc [.ref (ad (0, 0, 0, 0)), .int a1, .int a2] (fun U => wd G I ad M U.heap ∧ wK G U)) (qI G I ad Q) 0 0 (fA I ad) := met_of (by decide +kernel) (Nat.le_of_ble_eq_true rfl) (fun p e s m below meth c C hP hS ls hl => j_X8_truth_0 C hC h0 _ _ _ _ hw hP hS hl)
section
variable {p : Program} {l : Launch} {e : Env} {s : State} {m : MethodId} {args : Array Value} {below : List Frame} {meth : Method} {c : Code} 
variable  {G : GG} {I : ix → Prop} {ad : ix → Nat}
set_option maxHeartbeats 4000000 in
set_option maxRecDepth 100000 in
theorem j_X8_isPlace_0 {a1 : Int32} (C : cx p s m args meth c cX8_isPlace 2 (some .boolean) RX8 G) (hC : clo I) (h0 : I (0, 0, 0, 0)) {Q : Int32 → Mem → Prop} : ∀ (M : Mem) (H : Heap) (locs : List Loc) (ls : Array Slot), w_X8_isPlace a1 Q M → wd G I ad M H → va_S (fA I ad) s.heap H locs → lv_has ls 2 [(0, .ref (ad (0, 0, 0, 0))), (1, .int a1)] → W p l e rm_X8_isPlace s m args below meth c H locs 0 0 (MQ below (qI G I ad Q) args s 0 0 (fA I ad)) (F0 m 0 ls []) := by
  have hx := C.1
  have hb := C.2.1
  have hown := C.2.2.2.1
  have hts := C.2.2.2.2.1
  intro M H locs ls hw hP hS hl
  unfold w_X8_isPlace at hw
  refine lv_iload_n (pc := 0) hx hb dX8_isPlace_0 rfl (lv_at hl 1 rfl) ?_
  refine lv_if_lt (pc := 1) (tgt := 19) hx hb dX8_isPlace_1 (by decide) (fun h => ?_) (fun h => ?_)
  · replace hw := if_t h hw
    refine lv_iconst (pc := 19) (v := (0 : Int32)) hx hb dX8_isPlace_19 (by decide) ?_
    exact r_zret (pc := 20) C hP hS (by decide) hw dX8_isPlace_20
  · replace hw := if_f h hw
    refine lv_iload_n (pc := 4) hx hb dX8_isPlace_4 rfl (lv_at hl 1 rfl) ?_
    refine lv_aload_n (pc := 5) hx hb dX8_isPlace_5 rfl (lv_at hl 0 rfl) ?_
    refine gf_296 (pc := 6) C hP h0 dX8_isPlace_6 ?_
    refine gf_179 (pc := 9) C hP (cl_0_2 hC h0) dX8_isPlace_9 ?_
    refine lv_icmp_ge (pc := 12) (tgt := 19) hx hb dX8_isPlace_12 (by decide) (fun h => ?_) (fun h => ?_)
    · replace hw := if_t h hw
      refine lv_iconst (pc := 19) (v := (0 : Int32)) hx hb dX8_isPlace_19 (by decide) ?_
      exact r_zret (pc := 20) C hP hS (by decide) hw dX8_isPlace_20
    · replace hw := if_f h hw
      refine lv_iconst (pc := 15) (v := (1 : Int32)) hx hb dX8_isPlace_15 (by decide) ?_
      refine lv_goto (pc := 16) (tgt := 20) hx hb dX8_isPlace_16 (by decide) ?_
      exact r_zret (pc := 20) C hP hS (by decide) hw dX8_isPlace_20
end
theorem k_X8_isPlace (l : Launch) (G : GG) {I : ix → Prop} {ad : ix → Nat} (hC : clo I) {a1 : Int32} (h0 : I (0, 0, 0, 0)) {Q : Int32 → Mem → Prop} {M : Mem} (hw : w_X8_isPlace a1 Q M) : Met l yX8_isPlace (wW yX8_isPlace cX8_isPlace 2 (some .boolean)) rm_X8_isPlace (va_Pc [.ref (ad (0, 0, 0, 0)), .int a1] (fun U => wd G I ad M U.heap ∧ wK G U)) (qI G I ad Q) 0 0 (fA I ad) := met_of (by decide +kernel) (Nat.le_of_ble_eq_true rfl) (fun p e s m below meth c C hP hS ls hl => j_X8_isPlace_0 C hC h0 _ _ _ _ hw hP hS hl)
section
variable {p : Program} {l : Launch} {e : Env} {s : State} {m : MethodId} {args : Array Value} {below : List Frame} {meth : Method} {c : Code} 
variable  {G : GG} {I : ix → Prop} {ad : ix → Nat}
set_option maxHeartbeats 4000000 in
set_option maxRecDepth 100000 in
theorem j_X8_range_0 {a1 : Int32} {a2 : Int32} {a3 : Int32} (C : cx p s m args meth c cX8_range 4 (some .int) RX8 G) (hC : clo I) (h0 : I (0, 0, 0, 0)) {Q : Int32 → Mem → Prop} : ∀ (M : Mem) (H : Heap) (locs : List Loc) (ls : Array Slot), w_X8_range a1 a2 a3 Q M → wd G I ad M H → va_S (fA I ad) s.heap H locs → lv_has ls 4 [(0, .ref (ad (0, 0, 0, 0))), (1, .int a1), (2, .int a2), (3, .int a3)] → W p l e rm_X8_range s m args below meth c H locs 0 0 (MQ below (qI G I ad Q) args s 0 0 (fA I ad)) (F0 m 0 ls []) := by
  have hx := C.1
  have hb := C.2.1
  have hown := C.2.2.2.1
  have hts := C.2.2.2.2.1
  intro M H locs ls hw hP hS hl
  unfold w_X8_range at hw
  refine lv_iload_n (pc := 0) hx hb dX8_range_0 rfl (lv_at hl 1 rfl) ?_
  refine r_cSI (pc := 1) (rest := []) (As := [.int a1]) C hl.1 hP hS (k_X8_isBlock l G hC  hw) mw_326 mw_327 mw_56 mw_328 ⟨rfl, rfl⟩ hd_X8_isBlock rfl rfl ⟨Nat.le_of_ble_eq_true rfl, Nat.le_of_ble_eq_true rfl⟩ (Nat.le_of_ble_eq_true rfl) ⟨Nat.zero_le _, Nat.zero_le _⟩ dX8_range_1 (fun r1 M1 H locs hw hP hS => ?_)
  refine lv_if_ne (pc := 4) (tgt := 10) hx hb dX8_range_4 (by decide) (fun h => ?_) (fun h => ?_)
  · replace hw := if_f h hw
    refine lv_aload_n (pc := 10) hx hb dX8_range_10 rfl (lv_at hl 0 rfl) ?_
    refine lv_iload_n (pc := 11) hx hb dX8_range_11 rfl (lv_at hl 2 rfl) ?_
    refine r_cVI (pc := 12) (rest := []) (As := [.int a2]) C hl.1 hP hS (k_X8_isPlace l G hC h0 hw) h0 rfl rfl mw_523 mw_525 mw_13 mw_56 mw_526 ⟨rfl, rfl⟩ hd_X8_isPlace rfl rfl ⟨Nat.le_of_ble_eq_true rfl, Nat.le_of_ble_eq_true rfl⟩ (Nat.le_of_ble_eq_true rfl) ⟨Nat.zero_le _, Nat.zero_le _⟩ dX8_range_12 (fun r12 M12 H locs hw hP hS => ?_)
    refine lv_if_eq (pc := 15) (tgt := 27) hx hb dX8_range_15 (by decide) (fun h => ?_) (fun h => ?_)
    · replace hw := if_t h hw
      refine lv_ldc (pc := 27) (own := RX8) (v := (-3000002 : Int32)) hx hb hown (hts _ mw_413) dX8_range_27 ?_
      exact r_iret (pc := 29) C hP hS hw dX8_range_29
    · replace hw := if_f h hw
      refine lv_iload_n (pc := 18) hx hb dX8_range_18 rfl (lv_at hl 3 rfl) ?_
      refine lv_if_lt (pc := 19) (tgt := 27) hx hb dX8_range_19 (by decide) (fun h => ?_) (fun h => ?_)
      · replace hw := if_t h hw
        refine lv_ldc (pc := 27) (own := RX8) (v := (-3000002 : Int32)) hx hb hown (hts _ mw_413) dX8_range_27 ?_
        exact r_iret (pc := 29) C hP hS hw dX8_range_29
      · replace hw := if_f h hw
        refine lv_iload_n (pc := 22) hx hb dX8_range_22 rfl (lv_at hl 3 rfl) ?_
        refine lv_iconst (pc := 23) (v := (2 : Int32)) hx hb dX8_range_23 (by decide) ?_
        refine lv_icmp_le (pc := 24) (tgt := 30) hx hb dX8_range_24 (by decide) (fun h => ?_) (fun h => ?_)
        · replace hw := if_t h hw
          refine lv_aload_n (pc := 30) hx hb dX8_range_30 rfl (lv_at hl 0 rfl) ?_
          refine gf_296 (pc := 31) C hP h0 dX8_range_31 ?_
          refine r_cVI (pc := 34) (rest := []) (As := []) C hl.1 hP hS (k_X1_isFaulty l G hC (cl_0_2 hC h0) hw) (cl_0_2 hC h0) rfl rfl mw_486 mw_445 mw_446 mw_60 mw_447 ⟨rfl, rfl⟩ hd_X1_isFaulty rfl rfl ⟨Nat.le_of_ble_eq_true rfl, Nat.le_of_ble_eq_true rfl⟩ (Nat.le_of_ble_eq_true rfl) ⟨Nat.zero_le _, Nat.zero_le _⟩ dX8_range_34 (fun r34 M34 H locs hw hP hS => ?_)
          refine lv_if_eq (pc := 37) (tgt := 43) hx hb dX8_range_37 (by decide) (fun h => ?_) (fun h => ?_)
          · replace hw := if_t h hw
            refine lv_aload_n (pc := 43) hx hb dX8_range_43 rfl (lv_at hl 0 rfl) ?_
            refine gf_294 (pc := 44) C hP h0 dX8_range_44 ?_
            refine gf_156 (pc := 47) C hP (cl_0_0 hC h0) dX8_range_47 ?_
            refine lv_iload_n (pc := 50) hx hb dX8_range_50 rfl (lv_at hl 1 rfl) ?_
            refine r_aald2 (pc := 51) C hP (cl_1_0 hC (cl_0_0 hC h0)) hw.1 dX8_range_51 ?_
            have hi51 := in_lt hw.1
            replace hw := hw.2
            refine gf_139 (pc := 52) C hP (cl_2_e hC (cl_1_0 hC (cl_0_0 hC h0)) hi51) dX8_range_52 ?_
            refine lv_if_eq (pc := 55) (tgt := 71) hx hb dX8_range_55 (by decide) (fun h => ?_) (fun h => ?_)
            · replace hw := if_t h hw
              refine lv_ldc (pc := 71) (own := RX8) (v := (-3000003 : Int32)) hx hb hown (hts _ mw_528) dX8_range_71 ?_
              exact r_iret (pc := 73) C hP hS hw dX8_range_73
            · replace hw := if_f h hw
              refine lv_aload_n (pc := 58) hx hb dX8_range_58 rfl (lv_at hl 0 rfl) ?_
              refine gf_296 (pc := 59) C hP h0 dX8_range_59 ?_
              refine gf_186 (pc := 62) C hP (cl_0_2 hC h0) dX8_range_62 ?_
              refine lv_iload_n (pc := 65) hx hb dX8_range_65 rfl (lv_at hl 2 rfl) ?_
              refine r_ialdK (pc := 66) (n := 60) (k := a2.toNatClampNeg) C hP (cl_11_2 hC (cl_0_2 hC h0)) (fun _ _ _ _ => rfl) hw.1 rfl dX8_range_66 ?_
              replace hw := hw.2
              refine lv_iconst (pc := 67) (v := (2 : Int32)) hx hb dX8_range_67 (by decide) ?_
              refine lv_icmp_eq (pc := 68) (tgt := 74) hx hb dX8_range_68 (by decide) (fun h => ?_) (fun h => ?_)
              · replace hw := if_t h hw
                refine lv_aload_n (pc := 74) hx hb dX8_range_74 rfl (lv_at hl 0 rfl) ?_
                refine gf_298 (pc := 75) C hP h0 dX8_range_75 ?_
                refine lv_aload_n (pc := 78) hx hb dX8_range_78 rfl (lv_at hl 0 rfl) ?_
                refine gf_294 (pc := 79) C hP h0 dX8_range_79 ?_
                refine gf_156 (pc := 82) C hP (cl_0_0 hC h0) dX8_range_82 ?_
                refine lv_iload_n (pc := 85) hx hb dX8_range_85 rfl (lv_at hl 1 rfl) ?_
                refine r_aald2 (pc := 86) C hP (cl_1_0 hC (cl_0_0 hC h0)) hw.1 dX8_range_86 ?_
                have hi86 := in_lt hw.1
                replace hw := hw.2
                refine r_cVV (pc := 87) (rest := []) (As := [.ref (ad (3, 0, a1.toNatClampNeg, 0))]) C hl.1 hP hS (k_X2_judge l G hC (cl_0_4 hC h0) (cl_2_e hC (cl_1_0 hC (cl_0_0 hC h0)) hi86) hw) (cl_0_4 hC h0) rfl rfl mw_529 mw_530 mw_531 mw_62 mw_532 ⟨rfl, rfl⟩ hd_X2_judge rfl rfl ⟨Nat.le_of_ble_eq_true rfl, Nat.le_of_ble_eq_true rfl⟩ (Nat.le_of_ble_eq_true rfl) ⟨Nat.zero_le _, Nat.zero_le _⟩ dX8_range_87 (fun M87 H locs hw hP hS => ?_)
                refine lv_iload_n (pc := 90) hx hb dX8_range_90 rfl (lv_at hl 3 rfl) ?_
                refine lv_if_ne (pc := 91) (tgt := 104) hx hb dX8_range_91 (by decide) (fun h => ?_) (fun h => ?_)
                · replace hw := if_f h hw
                  refine lv_iload_n (pc := 104) hx hb dX8_range_104 rfl (lv_at hl 3 rfl) ?_
                  refine lv_iconst (pc := 105) (v := (1 : Int32)) hx hb dX8_range_105 (by decide) ?_
                  refine lv_icmp_ne (pc := 106) (tgt := 121) hx hb dX8_range_106 (by decide) (fun h => ?_) (fun h => ?_)
                  · replace hw := if_f h hw
                    refine lv_aload_n (pc := 121) hx hb dX8_range_121 rfl (lv_at hl 0 rfl) ?_
                    refine gf_298 (pc := 122) C hP h0 dX8_range_122 ?_
                    refine gf_240 (pc := 125) C hP (cl_0_4 hC h0) dX8_range_125 ?_
                    refine lv_iload_n (pc := 128) hx hb dX8_range_128 rfl (lv_at hl 2 rfl) ?_
                    refine r_ialdK (pc := 129) (n := 60) (k := a2.toNatClampNeg) C hP (cl_20_2 hC (cl_0_4 hC h0)) (fun _ _ _ _ => rfl) hw.1 rfl dX8_range_129 ?_
                    replace hw := hw.2
                    exact r_iret (pc := 130) C hP hS hw dX8_range_130
                  · replace hw := if_t h hw
                    refine lv_aload_n (pc := 109) hx hb dX8_range_109 rfl (lv_at hl 0 rfl) ?_
                    refine gf_298 (pc := 110) C hP h0 dX8_range_110 ?_
                    refine gf_238 (pc := 113) C hP (cl_0_4 hC h0) dX8_range_113 ?_
                    refine lv_iload_n (pc := 116) hx hb dX8_range_116 rfl (lv_at hl 2 rfl) ?_
                    refine r_ialdK (pc := 117) (n := 60) (k := a2.toNatClampNeg) C hP (cl_20_1 hC (cl_0_4 hC h0)) (fun _ _ _ _ => rfl) hw.1 rfl dX8_range_117 ?_
                    replace hw := hw.2
                    refine lv_goto (pc := 118) (tgt := 130) hx hb dX8_range_118 (by decide) ?_
                    exact r_iret (pc := 130) C hP hS hw dX8_range_130
                · replace hw := if_t h hw
                  refine lv_aload_n (pc := 94) hx hb dX8_range_94 rfl (lv_at hl 0 rfl) ?_
                  refine gf_298 (pc := 95) C hP h0 dX8_range_95 ?_
                  refine gf_236 (pc := 98) C hP (cl_0_4 hC h0) dX8_range_98 ?_
                  refine lv_iload_n (pc := 101) hx hb dX8_range_101 rfl (lv_at hl 2 rfl) ?_
                  refine r_ialdK (pc := 102) (n := 60) (k := a2.toNatClampNeg) C hP (cl_20_0 hC (cl_0_4 hC h0)) (fun _ _ _ _ => rfl) hw.1 rfl dX8_range_102 ?_
                  replace hw := hw.2
                  exact r_iret (pc := 103) C hP hS hw dX8_range_103
              · replace hw := if_f h hw
                refine lv_ldc (pc := 71) (own := RX8) (v := (-3000003 : Int32)) hx hb hown (hts _ mw_528) dX8_range_71 ?_
                exact r_iret (pc := 73) C hP hS hw dX8_range_73
          · replace hw := if_f h hw
            refine lv_ldc (pc := 40) (own := RX8) (v := (-3000005 : Int32)) hx hb hown (hts _ mw_527) dX8_range_40 ?_
            exact r_iret (pc := 42) C hP hS hw dX8_range_42
        · replace hw := if_f h hw
          refine lv_ldc (pc := 27) (own := RX8) (v := (-3000002 : Int32)) hx hb hown (hts _ mw_413) dX8_range_27 ?_
          exact r_iret (pc := 29) C hP hS hw dX8_range_29
  · replace hw := if_t h hw
    refine lv_ldc (pc := 7) (own := RX8) (v := (-3000001 : Int32)) hx hb hown (hts _ mw_406) dX8_range_7 ?_
    exact r_iret (pc := 9) C hP hS hw dX8_range_9
end
theorem k_X8_range (l : Launch) (G : GG) {I : ix → Prop} {ad : ix → Nat} (hC : clo I) {a1 : Int32} {a2 : Int32} {a3 : Int32} (h0 : I (0, 0, 0, 0)) {Q : Int32 → Mem → Prop} {M : Mem} (hw : w_X8_range a1 a2 a3 Q M) : Met l yX8_range (wW yX8_range cX8_range 4 (some .int)) rm_X8_range (va_Pc [.ref (ad (0, 0, 0, 0)), .int a1, .int a2, .int a3] (fun U => wd G I ad M U.heap ∧ wK G U)) (qI G I ad Q) 0 0 (fA I ad) := met_of (by decide +kernel) (Nat.le_of_ble_eq_true rfl) (fun p e s m below meth c C hP hS ls hl => j_X8_range_0 C hC h0 _ _ _ _ hw hP hS hl)
section
variable {p : Program} {l : Launch} {e : Env} {s : State} {m : MethodId} {args : Array Value} {below : List Frame} {meth : Method} {c : Code} 
variable  {G : GG} {I : ix → Prop} {ad : ix → Nat}
set_option maxHeartbeats 4000000 in
set_option maxRecDepth 100000 in
theorem j_X8_may_0 {a1 : Int32} {a2 : Int32} (C : cx p s m args meth c cX8_may 3 (some .int) RX8 G) (hC : clo I) (h0 : I (0, 0, 0, 0)) {Q : Int32 → Mem → Prop} : ∀ (M : Mem) (H : Heap) (locs : List Loc) (ls : Array Slot), w_X8_may a1 a2 Q M → wd G I ad M H → va_S (fA I ad) s.heap H locs → lv_has ls 3 [(0, .ref (ad (0, 0, 0, 0))), (1, .int a1), (2, .int a2)] → W p l e rm_X8_may s m args below meth c H locs 0 0 (MQ below (qI G I ad Q) args s 0 0 (fA I ad)) (F0 m 0 ls []) := by
  have hx := C.1
  have hb := C.2.1
  have hown := C.2.2.2.1
  have hts := C.2.2.2.2.1
  intro M H locs ls hw hP hS hl
  unfold w_X8_may at hw
  refine lv_iload_n (pc := 0) hx hb dX8_may_0 rfl (lv_at hl 1 rfl) ?_
  refine r_cSI (pc := 1) (rest := []) (As := [.int a1]) C hl.1 hP hS (k_X8_isBlock l G hC  hw) mw_326 mw_327 mw_56 mw_328 ⟨rfl, rfl⟩ hd_X8_isBlock rfl rfl ⟨Nat.le_of_ble_eq_true rfl, Nat.le_of_ble_eq_true rfl⟩ (Nat.le_of_ble_eq_true rfl) ⟨Nat.zero_le _, Nat.zero_le _⟩ dX8_may_1 (fun r1 M1 H locs hw hP hS => ?_)
  refine lv_if_ne (pc := 4) (tgt := 9) hx hb dX8_may_4 (by decide) (fun h => ?_) (fun h => ?_)
  · replace hw := if_f h hw
    refine lv_aload_n (pc := 9) hx hb dX8_may_9 rfl (lv_at hl 0 rfl) ?_
    refine lv_iload_n (pc := 10) hx hb dX8_may_10 rfl (lv_at hl 2 rfl) ?_
    refine r_cVI (pc := 11) (rest := []) (As := [.int a2]) C hl.1 hP hS (k_X8_isPlace l G hC h0 hw) h0 rfl rfl mw_523 mw_525 mw_13 mw_56 mw_526 ⟨rfl, rfl⟩ hd_X8_isPlace rfl rfl ⟨Nat.le_of_ble_eq_true rfl, Nat.le_of_ble_eq_true rfl⟩ (Nat.le_of_ble_eq_true rfl) ⟨Nat.zero_le _, Nat.zero_le _⟩ dX8_may_11 (fun r11 M11 H locs hw hP hS => ?_)
    refine lv_if_ne (pc := 14) (tgt := 20) hx hb dX8_may_14 (by decide) (fun h => ?_) (fun h => ?_)
    · replace hw := if_f h hw
      refine lv_aload_n (pc := 20) hx hb dX8_may_20 rfl (lv_at hl 0 rfl) ?_
      refine gf_296 (pc := 21) C hP h0 dX8_may_21 ?_
      refine r_cVI (pc := 24) (rest := []) (As := []) C hl.1 hP hS (k_X1_isFaulty l G hC (cl_0_2 hC h0) hw) (cl_0_2 hC h0) rfl rfl mw_486 mw_445 mw_446 mw_60 mw_447 ⟨rfl, rfl⟩ hd_X1_isFaulty rfl rfl ⟨Nat.le_of_ble_eq_true rfl, Nat.le_of_ble_eq_true rfl⟩ (Nat.le_of_ble_eq_true rfl) ⟨Nat.zero_le _, Nat.zero_le _⟩ dX8_may_24 (fun r24 M24 H locs hw hP hS => ?_)
      refine lv_if_eq (pc := 27) (tgt := 33) hx hb dX8_may_27 (by decide) (fun h => ?_) (fun h => ?_)
      · replace hw := if_t h hw
        refine lv_aload_n (pc := 33) hx hb dX8_may_33 rfl (lv_at hl 0 rfl) ?_
        refine gf_294 (pc := 34) C hP h0 dX8_may_34 ?_
        refine gf_156 (pc := 37) C hP (cl_0_0 hC h0) dX8_may_37 ?_
        refine lv_iload_n (pc := 40) hx hb dX8_may_40 rfl (lv_at hl 1 rfl) ?_
        refine r_aald2 (pc := 41) C hP (cl_1_0 hC (cl_0_0 hC h0)) hw.1 dX8_may_41 ?_
        have hi41 := in_lt hw.1
        replace hw := hw.2
        refine gf_139 (pc := 42) C hP (cl_2_e hC (cl_1_0 hC (cl_0_0 hC h0)) hi41) dX8_may_42 ?_
        refine lv_if_eq (pc := 45) (tgt := 61) hx hb dX8_may_45 (by decide) (fun h => ?_) (fun h => ?_)
        · replace hw := if_t h hw
          refine lv_bipush (pc := 61) (v := (-3 : Int32)) hx hb dX8_may_61 (by decide) ?_
          exact r_iret (pc := 63) C hP hS hw dX8_may_63
        · replace hw := if_f h hw
          refine lv_aload_n (pc := 48) hx hb dX8_may_48 rfl (lv_at hl 0 rfl) ?_
          refine gf_296 (pc := 49) C hP h0 dX8_may_49 ?_
          refine gf_186 (pc := 52) C hP (cl_0_2 hC h0) dX8_may_52 ?_
          refine lv_iload_n (pc := 55) hx hb dX8_may_55 rfl (lv_at hl 2 rfl) ?_
          refine r_ialdK (pc := 56) (n := 60) (k := a2.toNatClampNeg) C hP (cl_11_2 hC (cl_0_2 hC h0)) (fun _ _ _ _ => rfl) hw.1 rfl dX8_may_56 ?_
          replace hw := hw.2
          refine lv_iconst (pc := 57) (v := (1 : Int32)) hx hb dX8_may_57 (by decide) ?_
          refine lv_icmp_eq (pc := 58) (tgt := 64) hx hb dX8_may_58 (by decide) (fun h => ?_) (fun h => ?_)
          · replace hw := if_t h hw
            refine lv_aload_n (pc := 64) hx hb dX8_may_64 rfl (lv_at hl 0 rfl) ?_
            refine gf_298 (pc := 65) C hP h0 dX8_may_65 ?_
            refine lv_aload_n (pc := 68) hx hb dX8_may_68 rfl (lv_at hl 0 rfl) ?_
            refine gf_294 (pc := 69) C hP h0 dX8_may_69 ?_
            refine gf_156 (pc := 72) C hP (cl_0_0 hC h0) dX8_may_72 ?_
            refine lv_iload_n (pc := 75) hx hb dX8_may_75 rfl (lv_at hl 1 rfl) ?_
            refine r_aald2 (pc := 76) C hP (cl_1_0 hC (cl_0_0 hC h0)) hw.1 dX8_may_76 ?_
            have hi76 := in_lt hw.1
            replace hw := hw.2
            refine r_cVV (pc := 77) (rest := []) (As := [.ref (ad (3, 0, a1.toNatClampNeg, 0))]) C hl.1 hP hS (k_X2_judge l G hC (cl_0_4 hC h0) (cl_2_e hC (cl_1_0 hC (cl_0_0 hC h0)) hi76) hw) (cl_0_4 hC h0) rfl rfl mw_529 mw_530 mw_531 mw_62 mw_532 ⟨rfl, rfl⟩ hd_X2_judge rfl rfl ⟨Nat.le_of_ble_eq_true rfl, Nat.le_of_ble_eq_true rfl⟩ (Nat.le_of_ble_eq_true rfl) ⟨Nat.zero_le _, Nat.zero_le _⟩ dX8_may_77 (fun M77 H locs hw hP hS => ?_)
            refine lv_aload_n (pc := 80) hx hb dX8_may_80 rfl (lv_at hl 0 rfl) ?_
            refine gf_298 (pc := 81) C hP h0 dX8_may_81 ?_
            refine gf_236 (pc := 84) C hP (cl_0_4 hC h0) dX8_may_84 ?_
            refine lv_iload_n (pc := 87) hx hb dX8_may_87 rfl (lv_at hl 2 rfl) ?_
            refine r_ialdK (pc := 88) (n := 60) (k := a2.toNatClampNeg) C hP (cl_20_0 hC (cl_0_4 hC h0)) (fun _ _ _ _ => rfl) hw.1 rfl dX8_may_88 ?_
            replace hw := hw.2
            exact r_iret (pc := 89) C hP hS hw dX8_may_89
          · replace hw := if_f h hw
            refine lv_bipush (pc := 61) (v := (-3 : Int32)) hx hb dX8_may_61 (by decide) ?_
            exact r_iret (pc := 63) C hP hS hw dX8_may_63
      · replace hw := if_f h hw
        refine lv_bipush (pc := 30) (v := (-5 : Int32)) hx hb dX8_may_30 (by decide) ?_
        exact r_iret (pc := 32) C hP hS hw dX8_may_32
    · replace hw := if_t h hw
      refine lv_bipush (pc := 17) (v := (-2 : Int32)) hx hb dX8_may_17 (by decide) ?_
      exact r_iret (pc := 19) C hP hS hw dX8_may_19
  · replace hw := if_t h hw
    refine lv_iconst (pc := 7) (v := (-1 : Int32)) hx hb dX8_may_7 (by decide) ?_
    exact r_iret (pc := 8) C hP hS hw dX8_may_8
end
theorem k_X8_may (l : Launch) (G : GG) {I : ix → Prop} {ad : ix → Nat} (hC : clo I) {a1 : Int32} {a2 : Int32} (h0 : I (0, 0, 0, 0)) {Q : Int32 → Mem → Prop} {M : Mem} (hw : w_X8_may a1 a2 Q M) : Met l yX8_may (wW yX8_may cX8_may 3 (some .int)) rm_X8_may (va_Pc [.ref (ad (0, 0, 0, 0)), .int a1, .int a2] (fun U => wd G I ad M U.heap ∧ wK G U)) (qI G I ad Q) 0 0 (fA I ad) := met_of (by decide +kernel) (Nat.le_of_ble_eq_true rfl) (fun p e s m below meth c C hP hS ls hl => j_X8_may_0 C hC h0 _ _ _ _ hw hP hS hl)
section
variable {p : Program} {l : Launch} {e : Env} {s : State} {m : MethodId} {args : Array Value} {below : List Frame} {meth : Method} {c : Code} 
variable  {G : GG} {I : ix → Prop} {ad : ix → Nat}
set_option maxHeartbeats 4000000 in
set_option maxRecDepth 100000 in
theorem j_X8_chancesByList_5 {s1 : Nat} {b1 : Nat} {c1 : Nat} {a2 : Int32} (C : cx p s m args meth c cX8_chancesByList 5 (some .int) RX8 G) (hC : clo I) (h0 : I (0, 0, 0, 0)) (h1 : I (7, s1, b1, c1)) {Q : Int32 → Mem → Prop} : ∀ (n : Nat), ∀ (x3 : Int32) (x4 : Int32) (M : Mem) (H : Heap) (locs : List Loc) (ls : Array Slot), w_X8_chancesByList_5 s1 b1 c1 a2 Q n x3 x4 M → wd G I ad M H → va_S (fA I ad) s.heap H locs → lv_has ls 5 [(0, .ref (ad (0, 0, 0, 0))), (1, .ref (ad (7, s1, b1, c1))), (2, .int a2), (3, .int x3), (4, .int x4)] → W p l e rm_X8_chancesByList s m args below meth c H locs 0 0 (MQ below (qI G I ad Q) args s 0 0 (fA I ad)) (F0 m 5 ls []) := by
  have hx := C.1
  have hb := C.2.1
  have hown := C.2.2.2.1
  have hts := C.2.2.2.2.1
  intro n
  induction n with
  | zero =>
    intro x3 x4 M H locs ls hw hP hS hl
    rw [w_X8_chancesByList_5] at hw
    exact hw.elim
  | succ n ih =>
    intro x3 x4 M H locs ls hw hP hS hl
    rw [w_X8_chancesByList_5] at hw
    refine lv_iload (pc := 5) hx hb dX8_chancesByList_5 (lv_at hl 4 rfl) ?_
    refine lv_aload_n (pc := 7) hx hb dX8_chancesByList_7 rfl (lv_at hl 1 rfl) ?_
    refine gf_113 (pc := 8) C hP h1 dX8_chancesByList_8 ?_
    refine lv_icmp_ge (pc := 11) (tgt := 60) hx hb dX8_chancesByList_11 (by decide) (fun h => ?_) (fun h => ?_)
    · replace hw := if_t h hw
      refine lv_aload_n (pc := 60) hx hb dX8_chancesByList_60 rfl (lv_at hl 1 rfl) ?_
      refine gf_111 (pc := 61) C hP h1 dX8_chancesByList_61 ?_
      refine lv_if_le (pc := 64) (tgt := 93) hx hb dX8_chancesByList_64 (by decide) (fun h => ?_) (fun h => ?_)
      · replace hw := if_t h hw
        refine lv_iload_n (pc := 93) hx hb dX8_chancesByList_93 rfl (lv_at hl 3 rfl) ?_
        exact r_iret (pc := 94) C hP hS hw dX8_chancesByList_94
      · replace hw := if_f h hw
        refine lv_aload_n (pc := 67) hx hb dX8_chancesByList_67 rfl (lv_at hl 0 rfl) ?_
        refine gf_299 (pc := 68) C hP h0 dX8_chancesByList_68 ?_
        refine lv_iload_n (pc := 71) hx hb dX8_chancesByList_71 rfl (lv_at hl 2 rfl) ?_
        refine lv_sipush (pc := 72) (v := (1000 : Int32)) hx hb dX8_chancesByList_72 (by decide) ?_
        refine r_iastK (pc := 75) (n := 4) (k := a2.toNatClampNeg) C hP hS (cl_0_5 hC h0) (fun _ _ _ _ => rfl) hw.1 rfl dX8_chancesByList_75 (fun H locs hP hS => ?_)
        replace hw := hw.2
        refine lv_iload_n (pc := 76) hx hb dX8_chancesByList_76 rfl (lv_at hl 3 rfl) ?_
        refine lv_aload_n (pc := 77) hx hb dX8_chancesByList_77 rfl (lv_at hl 0 rfl) ?_
        refine gf_297 (pc := 78) C hP h0 dX8_chancesByList_78 ?_
        refine lv_aload_n (pc := 81) hx hb dX8_chancesByList_81 rfl (lv_at hl 0 rfl) ?_
        refine gf_299 (pc := 82) C hP h0 dX8_chancesByList_82 ?_
        refine r_cVI (pc := 85) (rest := [.int x3]) (As := [.ref (ad (24, 0, 0, 0))]) C hl.1 hP hS (k_X3_judge l G hC (cl_0_3 hC h0) (cl_0_5 hC h0) (fun _ _ _ _ => rfl) hw) (cl_0_3 hC h0) rfl rfl mw_487 mw_488 mw_489 mw_61 mw_490 ⟨rfl, rfl⟩ hd_X3_judge rfl rfl ⟨Nat.le_of_ble_eq_true rfl, Nat.le_of_ble_eq_true rfl⟩ (Nat.le_of_ble_eq_true rfl) ⟨Nat.zero_le _, Nat.zero_le _⟩ dX8_chancesByList_85 (fun r85 M85 H locs hw hP hS => ?_)
        refine r_cSI (pc := 88) (rest := [.int x3]) (As := [.int r85]) C hl.1 hP hS (k_X8_chanceOf l G hC  hw) mw_613 mw_550 mw_56 mw_551 ⟨rfl, rfl⟩ hd_X8_chanceOf rfl rfl ⟨Nat.le_of_ble_eq_true rfl, Nat.le_of_ble_eq_true rfl⟩ (Nat.le_of_ble_eq_true rfl) ⟨Nat.zero_le _, Nat.zero_le _⟩ dX8_chancesByList_88 (fun r88 M88 H locs hw hP hS => ?_)
        refine lv_ior (pc := 91) hx hb dX8_chancesByList_91 ?_
        refine lv_topi (fun x3_92 ex3_92 => ?_)
        replace hw := hw x3_92 ex3_92
        refine lv_istore_n (pc := 92) (lv' := [(3, .int x3_92), (0, .ref (ad (0, 0, 0, 0))), (1, .ref (ad (7, s1, b1, c1))), (2, .int a2), (4, .int x4)]) hx hb dX8_chancesByList_92 rfl hl (by decide) rfl (fun ls hl => ?_)
        refine lv_iload_n (pc := 93) hx hb dX8_chancesByList_93 rfl (lv_at hl 0 rfl) ?_
        exact r_iret (pc := 94) C hP hS hw dX8_chancesByList_94
    · replace hw := if_f h hw
      refine lv_aload_n (pc := 14) hx hb dX8_chancesByList_14 rfl (lv_at hl 1 rfl) ?_
      refine gf_119 (pc := 15) C hP h1 dX8_chancesByList_15 ?_
      refine lv_iload (pc := 18) hx hb dX8_chancesByList_18 (lv_at hl 4 rfl) ?_
      refine r_ialdK (pc := 20) (n := 4) (k := x4.toNatClampNeg) C hP (cl_7_6 hC h1) (fun _ _ _ _ => rfl) hw.1 rfl dX8_chancesByList_20 ?_
      replace hw := hw.2
      refine lv_if_le (pc := 21) (tgt := 54) hx hb dX8_chancesByList_21 (by decide) (fun h => ?_) (fun h => ?_)
      · replace hw := if_t h hw
        refine lv_iinc (pc := 54) (v := x4 + 1) (lv' := [(4, .int (x4 + 1)), (0, .ref (ad (0, 0, 0, 0))), (1, .ref (ad (7, s1, b1, c1))), (2, .int a2), (3, .int x3)]) hx hb dX8_chancesByList_54 hl (k := 4) rfl rfl (by decide) rfl (fun ls hl => ?_)
        refine lv_goto (pc := 57) (tgt := 5) hx hb dX8_chancesByList_57 (by decide) ?_
        exact ih x3 (x4 + 1) M _ _ _ hw hP hS (lv_sub hl [1, 2, 3, 4, 0] rfl)
      · replace hw := if_f h hw
        refine lv_aload_n (pc := 24) hx hb dX8_chancesByList_24 rfl (lv_at hl 0 rfl) ?_
        refine gf_299 (pc := 25) C hP h0 dX8_chancesByList_25 ?_
        refine lv_iload_n (pc := 28) hx hb dX8_chancesByList_28 rfl (lv_at hl 2 rfl) ?_
        refine lv_aload_n (pc := 29) hx hb dX8_chancesByList_29 rfl (lv_at hl 1 rfl) ?_
        refine gf_117 (pc := 30) C hP h1 dX8_chancesByList_30 ?_
        refine lv_iload (pc := 33) hx hb dX8_chancesByList_33 (lv_at hl 4 rfl) ?_
        refine r_ialdK (pc := 35) (n := 4) (k := x4.toNatClampNeg) C hP (cl_7_5 hC h1) (fun _ _ _ _ => rfl) hw.1 rfl dX8_chancesByList_35 ?_
        replace hw := hw.2
        refine r_iastK (pc := 36) (n := 4) (k := a2.toNatClampNeg) C hP hS (cl_0_5 hC h0) (fun _ _ _ _ => rfl) hw.1 rfl dX8_chancesByList_36 (fun H locs hP hS => ?_)
        replace hw := hw.2
        refine lv_iload_n (pc := 37) hx hb dX8_chancesByList_37 rfl (lv_at hl 3 rfl) ?_
        refine lv_aload_n (pc := 38) hx hb dX8_chancesByList_38 rfl (lv_at hl 0 rfl) ?_
        refine gf_297 (pc := 39) C hP h0 dX8_chancesByList_39 ?_
        refine lv_aload_n (pc := 42) hx hb dX8_chancesByList_42 rfl (lv_at hl 0 rfl) ?_
        refine gf_299 (pc := 43) C hP h0 dX8_chancesByList_43 ?_
        refine r_cVI (pc := 46) (rest := [.int x3]) (As := [.ref (ad (24, 0, 0, 0))]) C hl.1 hP hS (k_X3_judge l G hC (cl_0_3 hC h0) (cl_0_5 hC h0) (fun _ _ _ _ => rfl) hw) (cl_0_3 hC h0) rfl rfl mw_487 mw_488 mw_489 mw_61 mw_490 ⟨rfl, rfl⟩ hd_X3_judge rfl rfl ⟨Nat.le_of_ble_eq_true rfl, Nat.le_of_ble_eq_true rfl⟩ (Nat.le_of_ble_eq_true rfl) ⟨Nat.zero_le _, Nat.zero_le _⟩ dX8_chancesByList_46 (fun r46 M46 H locs hw hP hS => ?_)
        refine r_cSI (pc := 49) (rest := [.int x3]) (As := [.int r46]) C hl.1 hP hS (k_X8_chanceOf l G hC  hw) mw_613 mw_550 mw_56 mw_551 ⟨rfl, rfl⟩ hd_X8_chanceOf rfl rfl ⟨Nat.le_of_ble_eq_true rfl, Nat.le_of_ble_eq_true rfl⟩ (Nat.le_of_ble_eq_true rfl) ⟨Nat.zero_le _, Nat.zero_le _⟩ dX8_chancesByList_49 (fun r49 M49 H locs hw hP hS => ?_)
        refine lv_ior (pc := 52) hx hb dX8_chancesByList_52 ?_
        refine lv_topi (fun x3_53 ex3_53 => ?_)
        replace hw := hw x3_53 ex3_53
        refine lv_istore_n (pc := 53) (lv' := [(3, .int x3_53), (0, .ref (ad (0, 0, 0, 0))), (1, .ref (ad (7, s1, b1, c1))), (2, .int a2), (4, .int x4)]) hx hb dX8_chancesByList_53 rfl hl (by decide) rfl (fun ls hl => ?_)
        refine lv_iinc (pc := 54) (v := x4 + 1) (lv' := [(4, .int (x4 + 1)), (3, .int x3_53), (0, .ref (ad (0, 0, 0, 0))), (1, .ref (ad (7, s1, b1, c1))), (2, .int a2)]) hx hb dX8_chancesByList_54 hl (k := 4) rfl rfl (by decide) rfl (fun ls hl => ?_)
        refine lv_goto (pc := 57) (tgt := 5) hx hb dX8_chancesByList_57 (by decide) ?_
        exact ih x3_53 (x4 + 1) M49 _ _ _ hw hP hS (lv_sub hl [2, 3, 4, 1, 0] rfl)
set_option maxHeartbeats 4000000 in
set_option maxRecDepth 100000 in
theorem j_X8_chancesByList_0 {s1 : Nat} {b1 : Nat} {c1 : Nat} {a2 : Int32} (C : cx p s m args meth c cX8_chancesByList 5 (some .int) RX8 G) (hC : clo I) (h0 : I (0, 0, 0, 0)) (h1 : I (7, s1, b1, c1)) {Q : Int32 → Mem → Prop} : ∀ (M : Mem) (H : Heap) (locs : List Loc) (ls : Array Slot), w_X8_chancesByList s1 b1 c1 a2 Q M → wd G I ad M H → va_S (fA I ad) s.heap H locs → lv_has ls 5 [(0, .ref (ad (0, 0, 0, 0))), (1, .ref (ad (7, s1, b1, c1))), (2, .int a2)] → W p l e rm_X8_chancesByList s m args below meth c H locs 0 0 (MQ below (qI G I ad Q) args s 0 0 (fA I ad)) (F0 m 0 ls []) := by
  have hx := C.1
  have hb := C.2.1
  have hown := C.2.2.2.1
  have hts := C.2.2.2.2.1
  intro M H locs ls hw hP hS hl
  unfold w_X8_chancesByList at hw
  refine lv_iconst (pc := 0) (v := (0 : Int32)) hx hb dX8_chancesByList_0 (by decide) ?_
  refine lv_istore_n (pc := 1) (lv' := [(3, .int (0 : Int32)), (0, .ref (ad (0, 0, 0, 0))), (1, .ref (ad (7, s1, b1, c1))), (2, .int a2)]) hx hb dX8_chancesByList_1 rfl hl (by decide) rfl (fun ls hl => ?_)
  refine lv_iconst (pc := 2) (v := (0 : Int32)) hx hb dX8_chancesByList_2 (by decide) ?_
  refine lv_istore (pc := 3) (lv' := [(4, .int (0 : Int32)), (3, .int (0 : Int32)), (0, .ref (ad (0, 0, 0, 0))), (1, .ref (ad (7, s1, b1, c1))), (2, .int a2)]) hx hb dX8_chancesByList_3 hl (by decide) rfl (fun ls hl => ?_)
  obtain ⟨n0, hw⟩ := hw
  exact j_X8_chancesByList_5 C hC h0 h1 n0 (0 : Int32) (0 : Int32) M _ _ _ hw hP hS (lv_sub hl [2, 3, 4, 1, 0] rfl)
end
theorem k_X8_chancesByList (l : Launch) (G : GG) {I : ix → Prop} {ad : ix → Nat} (hC : clo I) {s1 : Nat} {b1 : Nat} {c1 : Nat} {a2 : Int32} (h0 : I (0, 0, 0, 0)) (h1 : I (7, s1, b1, c1)) {Q : Int32 → Mem → Prop} {M : Mem} (hw : w_X8_chancesByList s1 b1 c1 a2 Q M) : Met l yX8_chancesByList (wW yX8_chancesByList cX8_chancesByList 5 (some .int)) rm_X8_chancesByList (va_Pc [.ref (ad (0, 0, 0, 0)), .ref (ad (7, s1, b1, c1)), .int a2] (fun U => wd G I ad M U.heap ∧ wK G U)) (qI G I ad Q) 0 0 (fA I ad) := met_of (by decide +kernel) (Nat.le_of_ble_eq_true rfl) (fun p e s m below meth c C hP hS ls hl => j_X8_chancesByList_0 C hC h0 h1 _ _ _ _ hw hP hS hl)
section
variable {p : Program} {l : Launch} {e : Env} {s : State} {m : MethodId} {args : Array Value} {below : List Frame} {meth : Method} {c : Code} 
variable  {G : GG} {I : ix → Prop} {ad : ix → Nat}
set_option maxHeartbeats 4000000 in
set_option maxRecDepth 100000 in
theorem j_X8_chancesIn_0 {s1 : Nat} {b1 : Nat} (C : cx p s m args meth c cX8_chancesIn 3 (some .int) RX8 G) (hC : clo I) (h0 : I (0, 0, 0, 0)) (h1 : I (3, s1, b1, 0)) {Q : Int32 → Mem → Prop} : ∀ (M : Mem) (H : Heap) (locs : List Loc) (ls : Array Slot), w_X8_chancesIn s1 b1 Q M → wd G I ad M H → va_S (fA I ad) s.heap H locs → lv_has ls 3 [(0, .ref (ad (0, 0, 0, 0))), (1, .ref (ad (3, s1, b1, 0)))] → W p l e rm_X8_chancesIn s m args below meth c H locs 0 0 (MQ below (qI G I ad Q) args s 0 0 (fA I ad)) (F0 m 0 ls []) := by
  have hx := C.1
  have hb := C.2.1
  have hown := C.2.2.2.1
  have hts := C.2.2.2.2.1
  intro M H locs ls hw hP hS hl
  unfold w_X8_chancesIn at hw
  refine lv_aload_n (pc := 0) hx hb dX8_chancesIn_0 rfl (lv_at hl 1 rfl) ?_
  refine gf_139 (pc := 1) C hP h1 dX8_chancesIn_1 ?_
  refine lv_if_ne (pc := 4) (tgt := 9) hx hb dX8_chancesIn_4 (by decide) (fun h => ?_) (fun h => ?_)
  · replace hw := if_f h hw
    refine lv_aload_n (pc := 9) hx hb dX8_chancesIn_9 rfl (lv_at hl 0 rfl) ?_
    refine gf_296 (pc := 10) C hP h0 dX8_chancesIn_10 ?_
    refine r_cVI (pc := 13) (rest := []) (As := []) C hl.1 hP hS (k_X1_onlyColumn l G hC (cl_0_2 hC h0) hw) (cl_0_2 hC h0) rfl rfl mw_605 mw_606 mw_607 mw_60 mw_608 ⟨rfl, rfl⟩ hd_X1_onlyColumn rfl rfl ⟨Nat.le_of_ble_eq_true rfl, Nat.le_of_ble_eq_true rfl⟩ (Nat.le_of_ble_eq_true rfl) ⟨Nat.zero_le _, Nat.zero_le _⟩ dX8_chancesIn_13 (fun r13 M13 H locs hw hP hS => ?_)
    refine lv_istore_n (pc := 16) (lv' := [(2, .int r13), (0, .ref (ad (0, 0, 0, 0))), (1, .ref (ad (3, s1, b1, 0)))]) hx hb dX8_chancesIn_16 rfl hl (by decide) rfl (fun ls hl => ?_)
    refine lv_iload_n (pc := 17) hx hb dX8_chancesIn_17 rfl (lv_at hl 0 rfl) ?_
    refine lv_ldc (pc := 18) (own := RX8) (v := (-2000000 : Int32)) hx hb hown (hts _ mw_411) dX8_chancesIn_18 ?_
    refine lv_icmp_eq (pc := 20) (tgt := 47) hx hb dX8_chancesIn_20 (by decide) (fun h => ?_) (fun h => ?_)
    · replace hw := if_t h hw
      refine lv_aload_n (pc := 47) hx hb dX8_chancesIn_47 rfl (lv_at hl 1 rfl) ?_
      refine gf_298 (pc := 48) C hP h0 dX8_chancesIn_48 ?_
      refine lv_aload_n (pc := 51) hx hb dX8_chancesIn_51 rfl (lv_at hl 2 rfl) ?_
      refine r_cVV (pc := 52) (rest := []) (As := [.ref (ad (3, s1, b1, 0))]) C hl.1 hP hS (k_X2_judge l G hC (cl_0_4 hC h0) h1 hw) (cl_0_4 hC h0) rfl rfl mw_529 mw_530 mw_531 mw_62 mw_532 ⟨rfl, rfl⟩ hd_X2_judge rfl rfl ⟨Nat.le_of_ble_eq_true rfl, Nat.le_of_ble_eq_true rfl⟩ (Nat.le_of_ble_eq_true rfl) ⟨Nat.zero_le _, Nat.zero_le _⟩ dX8_chancesIn_52 (fun M52 H locs hw hP hS => ?_)
      refine lv_aload_n (pc := 55) hx hb dX8_chancesIn_55 rfl (lv_at hl 1 rfl) ?_
      refine gf_298 (pc := 56) C hP h0 dX8_chancesIn_56 ?_
      refine gf_236 (pc := 59) C hP (cl_0_4 hC h0) dX8_chancesIn_59 ?_
      refine lv_iconst (pc := 62) (v := (0 : Int32)) hx hb dX8_chancesIn_62 (by decide) ?_
      refine r_ialdK (pc := 63) (n := 60) (k := 0) C hP (cl_20_0 hC (cl_0_4 hC h0)) (fun _ _ _ _ => rfl) (vpc (by decide)) (by decide) dX8_chancesIn_63 ?_
      exact r_iret (pc := 64) C hP hS hw dX8_chancesIn_64
    · replace hw := if_f h hw
      refine lv_aload_n (pc := 23) hx hb dX8_chancesIn_23 rfl (lv_at hl 2 rfl) ?_
      refine gf_144 (pc := 24) C hP h1 dX8_chancesIn_24 ?_
      refine lv_iload_n (pc := 27) hx hb dX8_chancesIn_27 rfl (lv_at hl 0 rfl) ?_
      refine r_aald6 (pc := 28) C hP (cl_3_2 hC h1) hw.1 dX8_chancesIn_28 ?_
      have hi28 := in_lt hw.1
      replace hw := hw.2
      refine gf_115 (pc := 29) C hP (cl_6_e hC (cl_3_2 hC h1) hi28) dX8_chancesIn_29 ?_
      refine lv_if_ne (pc := 32) (tgt := 47) hx hb dX8_chancesIn_32 (by decide) (fun h => ?_) (fun h => ?_)
      · replace hw := if_f h hw
        refine lv_aload_n (pc := 47) hx hb dX8_chancesIn_47 rfl (lv_at hl 1 rfl) ?_
        refine gf_298 (pc := 48) C hP h0 dX8_chancesIn_48 ?_
        refine lv_aload_n (pc := 51) hx hb dX8_chancesIn_51 rfl (lv_at hl 2 rfl) ?_
        refine r_cVV (pc := 52) (rest := []) (As := [.ref (ad (3, s1, b1, 0))]) C hl.1 hP hS (k_X2_judge l G hC (cl_0_4 hC h0) h1 hw) (cl_0_4 hC h0) rfl rfl mw_529 mw_530 mw_531 mw_62 mw_532 ⟨rfl, rfl⟩ hd_X2_judge rfl rfl ⟨Nat.le_of_ble_eq_true rfl, Nat.le_of_ble_eq_true rfl⟩ (Nat.le_of_ble_eq_true rfl) ⟨Nat.zero_le _, Nat.zero_le _⟩ dX8_chancesIn_52 (fun M52 H locs hw hP hS => ?_)
        refine lv_aload_n (pc := 55) hx hb dX8_chancesIn_55 rfl (lv_at hl 1 rfl) ?_
        refine gf_298 (pc := 56) C hP h0 dX8_chancesIn_56 ?_
        refine gf_236 (pc := 59) C hP (cl_0_4 hC h0) dX8_chancesIn_59 ?_
        refine lv_iconst (pc := 62) (v := (0 : Int32)) hx hb dX8_chancesIn_62 (by decide) ?_
        refine r_ialdK (pc := 63) (n := 60) (k := 0) C hP (cl_20_0 hC (cl_0_4 hC h0)) (fun _ _ _ _ => rfl) (vpc (by decide)) (by decide) dX8_chancesIn_63 ?_
        exact r_iret (pc := 64) C hP hS hw dX8_chancesIn_64
      · replace hw := if_t h hw
        refine lv_aload_n (pc := 35) hx hb dX8_chancesIn_35 rfl (lv_at hl 1 rfl) ?_
        refine lv_aload_n (pc := 36) hx hb dX8_chancesIn_36 rfl (lv_at hl 2 rfl) ?_
        refine gf_144 (pc := 37) C hP h1 dX8_chancesIn_37 ?_
        refine lv_iload_n (pc := 40) hx hb dX8_chancesIn_40 rfl (lv_at hl 0 rfl) ?_
        refine r_aald6 (pc := 41) C hP (cl_3_2 hC h1) hw.1 dX8_chancesIn_41 ?_
        have hi41 := in_lt hw.1
        replace hw := hw.2
        refine lv_iload_n (pc := 42) hx hb dX8_chancesIn_42 rfl (lv_at hl 0 rfl) ?_
        refine r_cVI (pc := 43) (rest := []) (As := [.ref (ad (7, s1, b1, r13.toNatClampNeg)), .int r13]) C hl.1 hP hS (k_X8_chancesByList l G hC h0 (cl_6_e hC (cl_3_2 hC h1) hi41) hw) h0 rfl rfl mw_609 mw_611 mw_24 mw_56 mw_612 ⟨rfl, rfl⟩ hd_X8_chancesByList rfl rfl ⟨Nat.le_of_ble_eq_true rfl, Nat.le_of_ble_eq_true rfl⟩ (Nat.le_of_ble_eq_true rfl) ⟨Nat.zero_le _, Nat.zero_le _⟩ dX8_chancesIn_43 (fun r43 M43 H locs hw hP hS => ?_)
        exact r_iret (pc := 46) C hP hS hw dX8_chancesIn_46
  · replace hw := if_t h hw
    refine lv_iconst (pc := 7) (v := (0 : Int32)) hx hb dX8_chancesIn_7 (by decide) ?_
    exact r_iret (pc := 8) C hP hS hw dX8_chancesIn_8
end
theorem k_X8_chancesIn (l : Launch) (G : GG) {I : ix → Prop} {ad : ix → Nat} (hC : clo I) {s1 : Nat} {b1 : Nat} (h0 : I (0, 0, 0, 0)) (h1 : I (3, s1, b1, 0)) {Q : Int32 → Mem → Prop} {M : Mem} (hw : w_X8_chancesIn s1 b1 Q M) : Met l yX8_chancesIn (wW yX8_chancesIn cX8_chancesIn 3 (some .int)) rm_X8_chancesIn (va_Pc [.ref (ad (0, 0, 0, 0)), .ref (ad (3, s1, b1, 0))] (fun U => wd G I ad M U.heap ∧ wK G U)) (qI G I ad Q) 0 0 (fA I ad) := met_of (by decide +kernel) (Nat.le_of_ble_eq_true rfl) (fun p e s m below meth c C hP hS ls hl => j_X8_chancesIn_0 C hC h0 h1 _ _ _ _ hw hP hS hl)
section
variable {p : Program} {l : Launch} {e : Env} {s : State} {m : MethodId} {args : Array Value} {below : List Frame} {meth : Method} {c : Code} 
variable  {G : GG} {I : ix → Prop} {ad : ix → Nat}
set_option maxHeartbeats 4000000 in
set_option maxRecDepth 100000 in
theorem j_X8_rulingOf_0 {a0 : Int32} (C : cx p s m args meth c cX8_rulingOf 1 (some .int) RX8 G) (hC : clo I) {Q : Int32 → Mem → Prop} : ∀ (M : Mem) (H : Heap) (locs : List Loc) (ls : Array Slot), w_X8_rulingOf a0 Q M → wd G I ad M H → va_S (fA I ad) s.heap H locs → lv_has ls 1 [(0, .int a0)] → W p l e rm_X8_rulingOf s m args below meth c H locs 0 0 (MQ below (qI G I ad Q) args s 0 0 (fA I ad)) (F0 m 0 ls []) := by
  have hx := C.1
  have hb := C.2.1
  have hown := C.2.2.2.1
  have hts := C.2.2.2.2.1
  intro M H locs ls hw hP hS hl
  unfold w_X8_rulingOf at hw
  refine lv_iload_n (pc := 0) hx hb dX8_rulingOf_0 rfl (lv_at hl 0 rfl) ?_
  refine lv_iconst (pc := 1) (v := (1 : Int32)) hx hb dX8_rulingOf_1 (by decide) ?_
  refine lv_iand (pc := 2) hx hb dX8_rulingOf_2 ?_
  refine lv_if_ne (pc := 3) (tgt := 8) hx hb dX8_rulingOf_3 (by decide) (fun h => ?_) (fun h => ?_)
  · replace hw := if_f h hw
    refine lv_iload_n (pc := 8) hx hb dX8_rulingOf_8 rfl (lv_at hl 0 rfl) ?_
    refine lv_iconst (pc := 9) (v := (1 : Int32)) hx hb dX8_rulingOf_9 (by decide) ?_
    refine lv_icmp_ne (pc := 10) (tgt := 17) hx hb dX8_rulingOf_10 (by decide) (fun h => ?_) (fun h => ?_)
    · replace hw := if_f h hw
      refine lv_iconst (pc := 17) (v := (2 : Int32)) hx hb dX8_rulingOf_17 (by decide) ?_
      exact r_iret (pc := 18) C hP hS hw dX8_rulingOf_18
    · replace hw := if_t h hw
      refine lv_iconst (pc := 13) (v := (1 : Int32)) hx hb dX8_rulingOf_13 (by decide) ?_
      refine lv_goto (pc := 14) (tgt := 18) hx hb dX8_rulingOf_14 (by decide) ?_
      exact r_iret (pc := 18) C hP hS hw dX8_rulingOf_18
  · replace hw := if_t h hw
    refine lv_iconst (pc := 6) (v := (0 : Int32)) hx hb dX8_rulingOf_6 (by decide) ?_
    exact r_iret (pc := 7) C hP hS hw dX8_rulingOf_7
end
theorem k_X8_rulingOf (l : Launch) (G : GG) {I : ix → Prop} {ad : ix → Nat} (hC : clo I) {a0 : Int32} {Q : Int32 → Mem → Prop} {M : Mem} (hw : w_X8_rulingOf a0 Q M) : Met l yX8_rulingOf (wW yX8_rulingOf cX8_rulingOf 1 (some .int)) rm_X8_rulingOf (va_Pc [.int a0] (fun U => wd G I ad M U.heap ∧ wK G U)) (qI G I ad Q) 0 0 (fA I ad) := met_of (by decide +kernel) (Nat.le_of_ble_eq_true rfl) (fun p e s m below meth c C hP hS ls hl => j_X8_rulingOf_0 C hC  _ _ _ _ hw hP hS hl)
section
variable {p : Program} {l : Launch} {e : Env} {s : State} {m : MethodId} {args : Array Value} {below : List Frame} {meth : Method} {c : Code} 
variable  {G : GG} {I : ix → Prop} {ad : ix → Nat}
set_option maxHeartbeats 4000000 in
set_option maxRecDepth 100000 in
theorem j_X8_verdict_0 {a1 : Int32} {a2 : Int32} (C : cx p s m args meth c cX8_verdict 4 (some .int) RX8 G) (hC : clo I) (h0 : I (0, 0, 0, 0)) {Q : Int32 → Mem → Prop} : ∀ (M : Mem) (H : Heap) (locs : List Loc) (ls : Array Slot), w_X8_verdict a1 a2 Q M → wd G I ad M H → va_S (fA I ad) s.heap H locs → lv_has ls 4 [(0, .ref (ad (0, 0, 0, 0))), (1, .int a1), (2, .int a2)] → W p l e rm_X8_verdict s m args below meth c H locs 0 0 (MQ below (qI G I ad Q) args s 0 0 (fA I ad)) (F0 m 0 ls []) := by
  have hx := C.1
  have hb := C.2.1
  have hown := C.2.2.2.1
  have hts := C.2.2.2.2.1
  intro M H locs ls hw hP hS hl
  unfold w_X8_verdict at hw
  refine lv_iload_n (pc := 0) hx hb dX8_verdict_0 rfl (lv_at hl 1 rfl) ?_
  refine r_cSI (pc := 1) (rest := []) (As := [.int a1]) C hl.1 hP hS (k_X8_isBlock l G hC  hw) mw_326 mw_327 mw_56 mw_328 ⟨rfl, rfl⟩ hd_X8_isBlock rfl rfl ⟨Nat.le_of_ble_eq_true rfl, Nat.le_of_ble_eq_true rfl⟩ (Nat.le_of_ble_eq_true rfl) ⟨Nat.zero_le _, Nat.zero_le _⟩ dX8_verdict_1 (fun r1 M1 H locs hw hP hS => ?_)
  refine lv_if_ne (pc := 4) (tgt := 9) hx hb dX8_verdict_4 (by decide) (fun h => ?_) (fun h => ?_)
  · replace hw := if_f h hw
    refine lv_iload_n (pc := 9) hx hb dX8_verdict_9 rfl (lv_at hl 2 rfl) ?_
    refine lv_if_eq (pc := 10) (tgt := 21) hx hb dX8_verdict_10 (by decide) (fun h => ?_) (fun h => ?_)
    · replace hw := if_t h hw
      refine lv_aload_n (pc := 21) hx hb dX8_verdict_21 rfl (lv_at hl 0 rfl) ?_
      refine gf_296 (pc := 22) C hP h0 dX8_verdict_22 ?_
      refine r_cVI (pc := 25) (rest := []) (As := []) C hl.1 hP hS (k_X1_isFaulty l G hC (cl_0_2 hC h0) hw) (cl_0_2 hC h0) rfl rfl mw_486 mw_445 mw_446 mw_60 mw_447 ⟨rfl, rfl⟩ hd_X1_isFaulty rfl rfl ⟨Nat.le_of_ble_eq_true rfl, Nat.le_of_ble_eq_true rfl⟩ (Nat.le_of_ble_eq_true rfl) ⟨Nat.zero_le _, Nat.zero_le _⟩ dX8_verdict_25 (fun r25 M25 H locs hw hP hS => ?_)
      refine lv_if_eq (pc := 28) (tgt := 34) hx hb dX8_verdict_28 (by decide) (fun h => ?_) (fun h => ?_)
      · replace hw := if_t h hw
        refine lv_aload_n (pc := 34) hx hb dX8_verdict_34 rfl (lv_at hl 0 rfl) ?_
        refine lv_aload_n (pc := 35) hx hb dX8_verdict_35 rfl (lv_at hl 0 rfl) ?_
        refine gf_294 (pc := 36) C hP h0 dX8_verdict_36 ?_
        refine gf_156 (pc := 39) C hP (cl_0_0 hC h0) dX8_verdict_39 ?_
        refine lv_iload_n (pc := 42) hx hb dX8_verdict_42 rfl (lv_at hl 1 rfl) ?_
        refine r_aald2 (pc := 43) C hP (cl_1_0 hC (cl_0_0 hC h0)) hw.1 dX8_verdict_43 ?_
        have hi43 := in_lt hw.1
        replace hw := hw.2
        refine r_cVI (pc := 44) (rest := []) (As := [.ref (ad (3, 0, a1.toNatClampNeg, 0))]) C hl.1 hP hS (k_X8_chancesIn l G hC h0 (cl_2_e hC (cl_1_0 hC (cl_0_0 hC h0)) hi43) hw) h0 rfl rfl mw_601 mw_603 mw_23 mw_56 mw_604 ⟨rfl, rfl⟩ hd_X8_chancesIn rfl rfl ⟨Nat.le_of_ble_eq_true rfl, Nat.le_of_ble_eq_true rfl⟩ (Nat.le_of_ble_eq_true rfl) ⟨Nat.zero_le _, Nat.zero_le _⟩ dX8_verdict_44 (fun r44 M44 H locs hw hP hS => ?_)
        refine lv_istore_n (pc := 47) (lv' := [(3, .int r44), (0, .ref (ad (0, 0, 0, 0))), (1, .int a1), (2, .int a2)]) hx hb dX8_verdict_47 rfl hl (by decide) rfl (fun ls hl => ?_)
        refine lv_iload_n (pc := 48) hx hb dX8_verdict_48 rfl (lv_at hl 3 rfl) ?_
        refine lv_if_ne (pc := 49) (tgt := 59) hx hb dX8_verdict_49 (by decide) (fun h => ?_) (fun h => ?_)
        · replace hw := if_f h hw
          refine lv_iload_n (pc := 59) hx hb dX8_verdict_59 rfl (lv_at hl 0 rfl) ?_
          exact r_iret (pc := 60) C hP hS hw dX8_verdict_60
        · replace hw := if_t h hw
          refine lv_iload_n (pc := 52) hx hb dX8_verdict_52 rfl (lv_at hl 0 rfl) ?_
          refine r_cSI (pc := 53) (rest := []) (As := [.int r44]) C hl.1 hP hS (k_X8_rulingOf l G hC  hw) mw_614 mw_615 mw_56 mw_616 ⟨rfl, rfl⟩ hd_X8_rulingOf rfl rfl ⟨Nat.le_of_ble_eq_true rfl, Nat.le_of_ble_eq_true rfl⟩ (Nat.le_of_ble_eq_true rfl) ⟨Nat.zero_le _, Nat.zero_le _⟩ dX8_verdict_53 (fun r53 M53 H locs hw hP hS => ?_)
          refine lv_goto (pc := 56) (tgt := 60) hx hb dX8_verdict_56 (by decide) ?_
          exact r_iret (pc := 60) C hP hS hw dX8_verdict_60
      · replace hw := if_f h hw
        refine lv_bipush (pc := 31) (v := (-5 : Int32)) hx hb dX8_verdict_31 (by decide) ?_
        exact r_iret (pc := 33) C hP hS hw dX8_verdict_33
    · replace hw := if_f h hw
      refine lv_iload_n (pc := 13) hx hb dX8_verdict_13 rfl (lv_at hl 2 rfl) ?_
      refine lv_iconst (pc := 14) (v := (1 : Int32)) hx hb dX8_verdict_14 (by decide) ?_
      refine lv_icmp_eq (pc := 15) (tgt := 21) hx hb dX8_verdict_15 (by decide) (fun h => ?_) (fun h => ?_)
      · replace hw := if_t h hw
        refine lv_aload_n (pc := 21) hx hb dX8_verdict_21 rfl (lv_at hl 0 rfl) ?_
        refine gf_296 (pc := 22) C hP h0 dX8_verdict_22 ?_
        refine r_cVI (pc := 25) (rest := []) (As := []) C hl.1 hP hS (k_X1_isFaulty l G hC (cl_0_2 hC h0) hw) (cl_0_2 hC h0) rfl rfl mw_486 mw_445 mw_446 mw_60 mw_447 ⟨rfl, rfl⟩ hd_X1_isFaulty rfl rfl ⟨Nat.le_of_ble_eq_true rfl, Nat.le_of_ble_eq_true rfl⟩ (Nat.le_of_ble_eq_true rfl) ⟨Nat.zero_le _, Nat.zero_le _⟩ dX8_verdict_25 (fun r25 M25 H locs hw hP hS => ?_)
        refine lv_if_eq (pc := 28) (tgt := 34) hx hb dX8_verdict_28 (by decide) (fun h => ?_) (fun h => ?_)
        · replace hw := if_t h hw
          refine lv_aload_n (pc := 34) hx hb dX8_verdict_34 rfl (lv_at hl 0 rfl) ?_
          refine lv_aload_n (pc := 35) hx hb dX8_verdict_35 rfl (lv_at hl 0 rfl) ?_
          refine gf_294 (pc := 36) C hP h0 dX8_verdict_36 ?_
          refine gf_156 (pc := 39) C hP (cl_0_0 hC h0) dX8_verdict_39 ?_
          refine lv_iload_n (pc := 42) hx hb dX8_verdict_42 rfl (lv_at hl 1 rfl) ?_
          refine r_aald2 (pc := 43) C hP (cl_1_0 hC (cl_0_0 hC h0)) hw.1 dX8_verdict_43 ?_
          have hi43 := in_lt hw.1
          replace hw := hw.2
          refine r_cVI (pc := 44) (rest := []) (As := [.ref (ad (3, 0, a1.toNatClampNeg, 0))]) C hl.1 hP hS (k_X8_chancesIn l G hC h0 (cl_2_e hC (cl_1_0 hC (cl_0_0 hC h0)) hi43) hw) h0 rfl rfl mw_601 mw_603 mw_23 mw_56 mw_604 ⟨rfl, rfl⟩ hd_X8_chancesIn rfl rfl ⟨Nat.le_of_ble_eq_true rfl, Nat.le_of_ble_eq_true rfl⟩ (Nat.le_of_ble_eq_true rfl) ⟨Nat.zero_le _, Nat.zero_le _⟩ dX8_verdict_44 (fun r44 M44 H locs hw hP hS => ?_)
          refine lv_istore_n (pc := 47) (lv' := [(3, .int r44), (0, .ref (ad (0, 0, 0, 0))), (1, .int a1), (2, .int a2)]) hx hb dX8_verdict_47 rfl hl (by decide) rfl (fun ls hl => ?_)
          refine lv_iload_n (pc := 48) hx hb dX8_verdict_48 rfl (lv_at hl 3 rfl) ?_
          refine lv_if_ne (pc := 49) (tgt := 59) hx hb dX8_verdict_49 (by decide) (fun h => ?_) (fun h => ?_)
          · replace hw := if_f h hw
            refine lv_iload_n (pc := 59) hx hb dX8_verdict_59 rfl (lv_at hl 0 rfl) ?_
            exact r_iret (pc := 60) C hP hS hw dX8_verdict_60
          · replace hw := if_t h hw
            refine lv_iload_n (pc := 52) hx hb dX8_verdict_52 rfl (lv_at hl 0 rfl) ?_
            refine r_cSI (pc := 53) (rest := []) (As := [.int r44]) C hl.1 hP hS (k_X8_rulingOf l G hC  hw) mw_614 mw_615 mw_56 mw_616 ⟨rfl, rfl⟩ hd_X8_rulingOf rfl rfl ⟨Nat.le_of_ble_eq_true rfl, Nat.le_of_ble_eq_true rfl⟩ (Nat.le_of_ble_eq_true rfl) ⟨Nat.zero_le _, Nat.zero_le _⟩ dX8_verdict_53 (fun r53 M53 H locs hw hP hS => ?_)
            refine lv_goto (pc := 56) (tgt := 60) hx hb dX8_verdict_56 (by decide) ?_
            exact r_iret (pc := 60) C hP hS hw dX8_verdict_60
        · replace hw := if_f h hw
          refine lv_bipush (pc := 31) (v := (-5 : Int32)) hx hb dX8_verdict_31 (by decide) ?_
          exact r_iret (pc := 33) C hP hS hw dX8_verdict_33
      · replace hw := if_f h hw
        refine lv_bipush (pc := 18) (v := (-2 : Int32)) hx hb dX8_verdict_18 (by decide) ?_
        exact r_iret (pc := 20) C hP hS hw dX8_verdict_20
  · replace hw := if_t h hw
    refine lv_iconst (pc := 7) (v := (-1 : Int32)) hx hb dX8_verdict_7 (by decide) ?_
    exact r_iret (pc := 8) C hP hS hw dX8_verdict_8
end
theorem k_X8_verdict (l : Launch) (G : GG) {I : ix → Prop} {ad : ix → Nat} (hC : clo I) {a1 : Int32} {a2 : Int32} (h0 : I (0, 0, 0, 0)) {Q : Int32 → Mem → Prop} {M : Mem} (hw : w_X8_verdict a1 a2 Q M) : Met l yX8_verdict (wW yX8_verdict cX8_verdict 4 (some .int)) rm_X8_verdict (va_Pc [.ref (ad (0, 0, 0, 0)), .int a1, .int a2] (fun U => wd G I ad M U.heap ∧ wK G U)) (qI G I ad Q) 0 0 (fA I ad) := met_of (by decide +kernel) (Nat.le_of_ble_eq_true rfl) (fun p e s m below meth c C hP hS ls hl => j_X8_verdict_0 C hC h0 _ _ _ _ hw hP hS hl)
section
variable {p : Program} {l : Launch} {e : Env} {s : State} {m : MethodId} {args : Array Value} {below : List Frame} {meth : Method} {c : Code} 
variable  {G : GG} {I : ix → Prop} {ad : ix → Nat}
set_option maxHeartbeats 4000000 in
set_option maxRecDepth 100000 in
theorem j_X8_isMatch_0 {r1 : ix} {n1 : Nat} (C : cx p s m args meth c cX8_isMatch 2 (some .boolean) RX8 G) (hC : clo I) (h0 : I (0, 0, 0, 0)) (hr1 : I r1) (hn1 : isI r1 n1) {Q : Int32 → Mem → Prop} : ∀ (M : Mem) (H : Heap) (locs : List Loc) (ls : Array Slot), w_X8_isMatch r1 n1 Q M → wd G I ad M H → va_S (fA I ad) s.heap H locs → lv_has ls 2 [(0, .ref (ad (0, 0, 0, 0))), (1, .ref (ad r1))] → W p l e rm_X8_isMatch s m args below meth c H locs 0 0 (MQ below (qI G I ad Q) args s 0 0 (fA I ad)) (F0 m 0 ls []) := by
  have hx := C.1
  have hb := C.2.1
  have hown := C.2.2.2.1
  have hts := C.2.2.2.2.1
  intro M H locs ls hw hP hS hl
  unfold w_X8_isMatch at hw
  refine lv_aload_n (pc := 0) hx hb dX8_isMatch_0 rfl (lv_at hl 0 rfl) ?_
  refine gf_297 (pc := 1) C hP h0 dX8_isMatch_1 ?_
  refine lv_aload_n (pc := 4) hx hb dX8_isMatch_4 rfl (lv_at hl 1 rfl) ?_
  refine r_cVI (pc := 5) (rest := []) (As := [.ref (ad r1)]) C hl.1 hP hS (k_X3_judge l G hC (cl_0_3 hC h0) hr1 hn1 hw) (cl_0_3 hC h0) rfl rfl mw_487 mw_488 mw_489 mw_61 mw_490 ⟨rfl, rfl⟩ hd_X3_judge rfl rfl ⟨Nat.le_of_ble_eq_true rfl, Nat.le_of_ble_eq_true rfl⟩ (Nat.le_of_ble_eq_true rfl) ⟨Nat.zero_le _, Nat.zero_le _⟩ dX8_isMatch_5 (fun r5 M5 H locs hw hP hS => ?_)
  refine lv_iconst (pc := 8) (v := (1 : Int32)) hx hb dX8_isMatch_8 (by decide) ?_
  refine lv_icmp_ne (pc := 9) (tgt := 16) hx hb dX8_isMatch_9 (by decide) (fun h => ?_) (fun h => ?_)
  · replace hw := if_f h hw
    refine lv_iconst (pc := 16) (v := (0 : Int32)) hx hb dX8_isMatch_16 (by decide) ?_
    exact r_zret (pc := 17) C hP hS (by decide) hw dX8_isMatch_17
  · replace hw := if_t h hw
    refine lv_iconst (pc := 12) (v := (1 : Int32)) hx hb dX8_isMatch_12 (by decide) ?_
    refine lv_goto (pc := 13) (tgt := 17) hx hb dX8_isMatch_13 (by decide) ?_
    exact r_zret (pc := 17) C hP hS (by decide) hw dX8_isMatch_17
end
theorem k_X8_isMatch (l : Launch) (G : GG) {I : ix → Prop} {ad : ix → Nat} (hC : clo I) {r1 : ix} {n1 : Nat} (h0 : I (0, 0, 0, 0)) (hr1 : I r1) (hn1 : isI r1 n1) {Q : Int32 → Mem → Prop} {M : Mem} (hw : w_X8_isMatch r1 n1 Q M) : Met l yX8_isMatch (wW yX8_isMatch cX8_isMatch 2 (some .boolean)) rm_X8_isMatch (va_Pc [.ref (ad (0, 0, 0, 0)), .ref (ad r1)] (fun U => wd G I ad M U.heap ∧ wK G U)) (qI G I ad Q) 0 0 (fA I ad) := met_of (by decide +kernel) (Nat.le_of_ble_eq_true rfl) (fun p e s m below meth c C hP hS ls hl => j_X8_isMatch_0 C hC h0 hr1 hn1 _ _ _ _ hw hP hS hl)
section
variable {p : Program} {l : Launch} {e : Env} {s : State} {m : MethodId} {args : Array Value} {below : List Frame} {meth : Method} {c : Code} 
variable  {G : GG} {I : ix → Prop} {ad : ix → Nat}
set_option maxHeartbeats 4000000 in
set_option maxRecDepth 100000 in
theorem j_X8_countMatches_23 (C : cx p s m args meth c cX8_countMatches 5 (some .int) RX8 G) (hC : clo I) (h0 : I (0, 0, 0, 0)) {Q : Int32 → Mem → Prop} {B4 : Int32 → Int32 → Mem → Prop} (hB4 : ∀ (x1 : Int32) (x2 : Int32) (M : Mem) (H : Heap) (locs : List Loc) (ls : Array Slot), B4 x1 x2 M → wd G I ad M H → va_S (fA I ad) s.heap H locs → lv_has ls 5 [(0, .ref (ad (0, 0, 0, 0))), (1, .int x1), (2, .int x2)] → W p l e rm_X8_countMatches s m args below meth c H locs 0 0 (MQ below (qI G I ad Q) args s 0 0 (fA I ad)) (F0 m 4 ls [])) : ∀ (n : Nat), ∀ (x1 : Int32) (x2 : Int32) (x3_2 : Nat) (x4 : Int32) (M : Mem) (H : Heap) (locs : List Loc) (ls : Array Slot), w_X8_countMatches_23 Q B4 n x1 x2 x3_2 x4 M → wd G I ad M H → va_S (fA I ad) s.heap H locs → lv_has ls 5 [(0, .ref (ad (0, 0, 0, 0))), (1, .int x1), (2, .int x2), (3, .ref (ad (3, 0, x3_2, 0))), (4, .int x4)] → I (3, 0, x3_2, 0) → W p l e rm_X8_countMatches s m args below meth c H locs 0 0 (MQ below (qI G I ad Q) args s 0 0 (fA I ad)) (F0 m 23 ls []) := by
  have hx := C.1
  have hb := C.2.1
  have hown := C.2.2.2.1
  have hts := C.2.2.2.2.1
  intro n
  induction n with
  | zero =>
    intro x1 x2 x3_2 x4 M H locs ls hw hP hS hl hx3
    rw [w_X8_countMatches_23] at hw
    exact hw.elim
  | succ n ih =>
    intro x1 x2 x3_2 x4 M H locs ls hw hP hS hl hx3
    rw [w_X8_countMatches_23] at hw
    refine lv_iload (pc := 23) hx hb dX8_countMatches_23 (lv_at hl 4 rfl) ?_
    refine lv_aload_n (pc := 25) hx hb dX8_countMatches_25 rfl (lv_at hl 3 rfl) ?_
    refine gf_139 (pc := 26) C hP hx3 dX8_countMatches_26 ?_
    refine lv_icmp_ge (pc := 29) (tgt := 55) hx hb dX8_countMatches_29 (by decide) (fun h => ?_) (fun h => ?_)
    · replace hw := if_t h hw
      refine lv_iinc (pc := 55) (v := x2 + 1) (lv' := [(2, .int (x2 + 1)), (0, .ref (ad (0, 0, 0, 0))), (1, .int x1), (3, .ref (ad (3, 0, x3_2, 0))), (4, .int x4)]) hx hb dX8_countMatches_55 hl (k := 2) rfl rfl (by decide) rfl (fun ls hl => ?_)
      refine lv_goto (pc := 58) (tgt := 4) hx hb dX8_countMatches_58 (by decide) ?_
      exact hB4 x1 (x2 + 1) M _ _ _ hw hP hS (lv_sub hl [1, 2, 0] rfl)
    · replace hw := if_f h hw
      refine lv_aload_n (pc := 32) hx hb dX8_countMatches_32 rfl (lv_at hl 0 rfl) ?_
      refine lv_aload_n (pc := 33) hx hb dX8_countMatches_33 rfl (lv_at hl 3 rfl) ?_
      refine gf_141 (pc := 34) C hP hx3 dX8_countMatches_34 ?_
      refine lv_iload (pc := 37) hx hb dX8_countMatches_37 (lv_at hl 4 rfl) ?_
      refine r_aald4 (pc := 39) C hP (cl_3_1 hC hx3) hw.1 dX8_countMatches_39 ?_
      have hi39 := in_lt hw.1
      replace hw := hw.2
      refine r_cVI (pc := 40) (rest := []) (As := [.ref (ad (5, 0, x3_2, x4.toNatClampNeg))]) C hl.1 hP hS (k_X8_isMatch l G hC h0 (cl_4_e hC (cl_3_1 hC hx3) hi39) (fun _ _ _ _ => rfl) hw) h0 rfl rfl mw_625 mw_627 mw_26 mw_56 mw_628 ⟨rfl, rfl⟩ hd_X8_isMatch rfl rfl ⟨Nat.le_of_ble_eq_true rfl, Nat.le_of_ble_eq_true rfl⟩ (Nat.le_of_ble_eq_true rfl) ⟨Nat.zero_le _, Nat.zero_le _⟩ dX8_countMatches_40 (fun r40 M40 H locs hw hP hS => ?_)
      refine lv_if_eq (pc := 43) (tgt := 49) hx hb dX8_countMatches_43 (by decide) (fun h => ?_) (fun h => ?_)
      · replace hw := if_t h hw
        refine lv_iinc (pc := 49) (v := x4 + 1) (lv' := [(4, .int (x4 + 1)), (0, .ref (ad (0, 0, 0, 0))), (1, .int x1), (2, .int x2), (3, .ref (ad (3, 0, x3_2, 0)))]) hx hb dX8_countMatches_49 hl (k := 4) rfl rfl (by decide) rfl (fun ls hl => ?_)
        refine lv_goto (pc := 52) (tgt := 23) hx hb dX8_countMatches_52 (by decide) ?_
        exact ih x1 x2 x3_2 (x4 + 1) M40 _ _ _ hw hP hS (lv_sub hl [1, 2, 3, 4, 0] rfl) hx3
      · replace hw := if_f h hw
        refine lv_iinc (pc := 46) (v := x1 + 1) (lv' := [(1, .int (x1 + 1)), (0, .ref (ad (0, 0, 0, 0))), (2, .int x2), (3, .ref (ad (3, 0, x3_2, 0))), (4, .int x4)]) hx hb dX8_countMatches_46 hl (k := 1) rfl rfl (by decide) rfl (fun ls hl => ?_)
        refine lv_iinc (pc := 49) (v := x4 + 1) (lv' := [(4, .int (x4 + 1)), (1, .int (x1 + 1)), (0, .ref (ad (0, 0, 0, 0))), (2, .int x2), (3, .ref (ad (3, 0, x3_2, 0)))]) hx hb dX8_countMatches_49 hl (k := 4) rfl rfl (by decide) rfl (fun ls hl => ?_)
        refine lv_goto (pc := 52) (tgt := 23) hx hb dX8_countMatches_52 (by decide) ?_
        exact ih (x1 + 1) x2 x3_2 (x4 + 1) M40 _ _ _ hw hP hS (lv_sub hl [2, 1, 3, 4, 0] rfl) hx3
set_option maxHeartbeats 4000000 in
set_option maxRecDepth 100000 in
theorem j_X8_countMatches_4 (C : cx p s m args meth c cX8_countMatches 5 (some .int) RX8 G) (hC : clo I) (h0 : I (0, 0, 0, 0)) {Q : Int32 → Mem → Prop} : ∀ (n : Nat), ∀ (x1 : Int32) (x2 : Int32) (M : Mem) (H : Heap) (locs : List Loc) (ls : Array Slot), w_X8_countMatches_4 Q n x1 x2 M → wd G I ad M H → va_S (fA I ad) s.heap H locs → lv_has ls 5 [(0, .ref (ad (0, 0, 0, 0))), (1, .int x1), (2, .int x2)] → W p l e rm_X8_countMatches s m args below meth c H locs 0 0 (MQ below (qI G I ad Q) args s 0 0 (fA I ad)) (F0 m 4 ls []) := by
  have hx := C.1
  have hb := C.2.1
  have hown := C.2.2.2.1
  have hts := C.2.2.2.2.1
  intro n
  induction n with
  | zero =>
    intro x1 x2 M H locs ls hw hP hS hl
    rw [w_X8_countMatches_4] at hw
    exact hw.elim
  | succ n ih =>
    intro x1 x2 M H locs ls hw hP hS hl
    rw [w_X8_countMatches_4] at hw
    refine lv_iload_n (pc := 4) hx hb dX8_countMatches_4 rfl (lv_at hl 2 rfl) ?_
    refine lv_bipush (pc := 5) (v := (6 : Int32)) hx hb dX8_countMatches_5 (by decide) ?_
    refine lv_icmp_ge (pc := 7) (tgt := 61) hx hb dX8_countMatches_7 (by decide) (fun h => ?_) (fun h => ?_)
    · replace hw := if_t h hw
      refine lv_iload_n (pc := 61) hx hb dX8_countMatches_61 rfl (lv_at hl 1 rfl) ?_
      exact r_iret (pc := 62) C hP hS hw dX8_countMatches_62
    · replace hw := if_f h hw
      refine lv_aload_n (pc := 10) hx hb dX8_countMatches_10 rfl (lv_at hl 0 rfl) ?_
      refine gf_294 (pc := 11) C hP h0 dX8_countMatches_11 ?_
      refine gf_156 (pc := 14) C hP (cl_0_0 hC h0) dX8_countMatches_14 ?_
      refine lv_iload_n (pc := 17) hx hb dX8_countMatches_17 rfl (lv_at hl 2 rfl) ?_
      refine r_aald2 (pc := 18) C hP (cl_1_0 hC (cl_0_0 hC h0)) hw.1 dX8_countMatches_18 ?_
      have hi18 := in_lt hw.1
      replace hw := hw.2
      refine lv_astore_n (pc := 19) (lv' := [(3, .ref (ad (3, 0, x2.toNatClampNeg, 0))), (0, .ref (ad (0, 0, 0, 0))), (1, .int x1), (2, .int x2)]) hx hb dX8_countMatches_19 rfl hl (by decide) rfl (fun ls hl => ?_)
      refine lv_iconst (pc := 20) (v := (0 : Int32)) hx hb dX8_countMatches_20 (by decide) ?_
      refine lv_istore (pc := 21) (lv' := [(4, .int (0 : Int32)), (3, .ref (ad (3, 0, x2.toNatClampNeg, 0))), (0, .ref (ad (0, 0, 0, 0))), (1, .int x1), (2, .int x2)]) hx hb dX8_countMatches_21 hl (by decide) rfl (fun ls hl => ?_)
      obtain ⟨n0, hw⟩ := hw
      exact j_X8_countMatches_23 C hC h0 ih n0 x1 x2 (x2.toNatClampNeg) (0 : Int32) M _ _ _ hw hP hS (lv_sub hl [2, 3, 4, 1, 0] rfl) (cl_2_e hC (cl_1_0 hC (cl_0_0 hC h0)) hi18)
set_option maxHeartbeats 4000000 in
set_option maxRecDepth 100000 in
theorem j_X8_countMatches_0 (C : cx p s m args meth c cX8_countMatches 5 (some .int) RX8 G) (hC : clo I) (h0 : I (0, 0, 0, 0)) {Q : Int32 → Mem → Prop} : ∀ (M : Mem) (H : Heap) (locs : List Loc) (ls : Array Slot), w_X8_countMatches Q M → wd G I ad M H → va_S (fA I ad) s.heap H locs → lv_has ls 5 [(0, .ref (ad (0, 0, 0, 0)))] → W p l e rm_X8_countMatches s m args below meth c H locs 0 0 (MQ below (qI G I ad Q) args s 0 0 (fA I ad)) (F0 m 0 ls []) := by
  have hx := C.1
  have hb := C.2.1
  have hown := C.2.2.2.1
  have hts := C.2.2.2.2.1
  intro M H locs ls hw hP hS hl
  unfold w_X8_countMatches at hw
  refine lv_iconst (pc := 0) (v := (0 : Int32)) hx hb dX8_countMatches_0 (by decide) ?_
  refine lv_istore_n (pc := 1) (lv' := [(1, .int (0 : Int32)), (0, .ref (ad (0, 0, 0, 0)))]) hx hb dX8_countMatches_1 rfl hl (by decide) rfl (fun ls hl => ?_)
  refine lv_iconst (pc := 2) (v := (0 : Int32)) hx hb dX8_countMatches_2 (by decide) ?_
  refine lv_istore_n (pc := 3) (lv' := [(2, .int (0 : Int32)), (1, .int (0 : Int32)), (0, .ref (ad (0, 0, 0, 0)))]) hx hb dX8_countMatches_3 rfl hl (by decide) rfl (fun ls hl => ?_)
  obtain ⟨n0, hw⟩ := hw
  exact j_X8_countMatches_4 C hC h0 n0 (0 : Int32) (0 : Int32) M _ _ _ hw hP hS (lv_sub hl [2, 1, 0] rfl)
end
theorem k_X8_countMatches (l : Launch) (G : GG) {I : ix → Prop} {ad : ix → Nat} (hC : clo I) (h0 : I (0, 0, 0, 0)) {Q : Int32 → Mem → Prop} {M : Mem} (hw : w_X8_countMatches Q M) : Met l yX8_countMatches (wW yX8_countMatches cX8_countMatches 5 (some .int)) rm_X8_countMatches (va_Pc [.ref (ad (0, 0, 0, 0))] (fun U => wd G I ad M U.heap ∧ wK G U)) (qI G I ad Q) 0 0 (fA I ad) := met_of (by decide +kernel) (Nat.le_of_ble_eq_true rfl) (fun p e s m below meth c C hP hS ls hl => j_X8_countMatches_0 C hC h0 _ _ _ _ hw hP hS hl)
section
variable {p : Program} {l : Launch} {e : Env} {s : State} {m : MethodId} {args : Array Value} {below : List Frame} {meth : Method} {c : Code} 
variable  {G : GG} {I : ix → Prop} {ad : ix → Nat}
set_option maxHeartbeats 4000000 in
set_option maxRecDepth 100000 in
theorem j_X8_countUnlikeMatches_27 (C : cx p s m args meth c cX8_countUnlikeMatches 4 (some .int) RX8 G) (hC : clo I) (h0 : I (0, 0, 0, 0)) {Q : Int32 → Mem → Prop} {B9 : Int32 → Mem → Prop} (hB9 : ∀ (x1 : Int32) (M : Mem) (H : Heap) (locs : List Loc) (ls : Array Slot), B9 x1 M → wd G I ad M H → va_S (fA I ad) s.heap H locs → lv_has ls 4 [(0, .ref (ad (0, 0, 0, 0))), (1, .int x1)] → W p l e rm_X8_countUnlikeMatches s m args below meth c H locs 0 0 (MQ below (qI G I ad Q) args s 0 0 (fA I ad)) (F0 m 9 ls [])) : ∀ (n : Nat), ∀ (x1 : Int32) (x2_2 : Nat) (x3 : Int32) (M : Mem) (H : Heap) (locs : List Loc) (ls : Array Slot), w_X8_countUnlikeMatches_27 Q B9 n x1 x2_2 x3 M → wd G I ad M H → va_S (fA I ad) s.heap H locs → lv_has ls 4 [(0, .ref (ad (0, 0, 0, 0))), (1, .int x1), (2, .ref (ad (3, 0, x2_2, 0))), (3, .int x3)] → I (3, 0, x2_2, 0) → W p l e rm_X8_countUnlikeMatches s m args below meth c H locs 0 0 (MQ below (qI G I ad Q) args s 0 0 (fA I ad)) (F0 m 27 ls []) := by
  have hx := C.1
  have hb := C.2.1
  have hown := C.2.2.2.1
  have hts := C.2.2.2.2.1
  intro n
  induction n with
  | zero =>
    intro x1 x2_2 x3 M H locs ls hw hP hS hl hx2
    rw [w_X8_countUnlikeMatches_27] at hw
    exact hw.elim
  | succ n ih =>
    intro x1 x2_2 x3 M H locs ls hw hP hS hl hx2
    rw [w_X8_countUnlikeMatches_27] at hw
    refine lv_iload_n (pc := 27) hx hb dX8_countUnlikeMatches_27 rfl (lv_at hl 3 rfl) ?_
    refine lv_aload_n (pc := 28) hx hb dX8_countUnlikeMatches_28 rfl (lv_at hl 2 rfl) ?_
    refine gf_139 (pc := 29) C hP hx2 dX8_countUnlikeMatches_29 ?_
    refine lv_icmp_ge (pc := 32) (tgt := 67) hx hb dX8_countUnlikeMatches_32 (by decide) (fun h => ?_) (fun h => ?_)
    · replace hw := if_t h hw
      refine lv_iinc (pc := 67) (v := x1 + 1) (lv' := [(1, .int (x1 + 1)), (0, .ref (ad (0, 0, 0, 0))), (2, .ref (ad (3, 0, x2_2, 0))), (3, .int x3)]) hx hb dX8_countUnlikeMatches_67 hl (k := 1) rfl rfl (by decide) rfl (fun ls hl => ?_)
      refine lv_goto (pc := 70) (tgt := 9) hx hb dX8_countUnlikeMatches_70 (by decide) ?_
      exact hB9 (x1 + 1) M _ _ _ hw hP hS (lv_sub hl [1, 0] rfl)
    · replace hw := if_f h hw
      refine lv_aload_n (pc := 35) hx hb dX8_countUnlikeMatches_35 rfl (lv_at hl 0 rfl) ?_
      refine lv_aload_n (pc := 36) hx hb dX8_countUnlikeMatches_36 rfl (lv_at hl 2 rfl) ?_
      refine gf_141 (pc := 37) C hP hx2 dX8_countUnlikeMatches_37 ?_
      refine lv_iload_n (pc := 40) hx hb dX8_countUnlikeMatches_40 rfl (lv_at hl 3 rfl) ?_
      refine r_aald4 (pc := 41) C hP (cl_3_1 hC hx2) hw.1 dX8_countUnlikeMatches_41 ?_
      have hi41 := in_lt hw.1
      replace hw := hw.2
      refine r_cVI (pc := 42) (rest := []) (As := [.ref (ad (5, 0, x2_2, x3.toNatClampNeg))]) C hl.1 hP hS (k_X8_isMatch l G hC h0 (cl_4_e hC (cl_3_1 hC hx2) hi41) (fun _ _ _ _ => rfl) hw) h0 rfl rfl mw_625 mw_627 mw_26 mw_56 mw_628 ⟨rfl, rfl⟩ hd_X8_isMatch rfl rfl ⟨Nat.le_of_ble_eq_true rfl, Nat.le_of_ble_eq_true rfl⟩ (Nat.le_of_ble_eq_true rfl) ⟨Nat.zero_le _, Nat.zero_le _⟩ dX8_countUnlikeMatches_42 (fun r42 M42 H locs hw hP hS => ?_)
      refine lv_if_eq (pc := 45) (tgt := 61) hx hb dX8_countUnlikeMatches_45 (by decide) (fun h => ?_) (fun h => ?_)
      · replace hw := if_t h hw
        refine lv_iinc (pc := 61) (v := x3 + 1) (lv' := [(3, .int (x3 + 1)), (0, .ref (ad (0, 0, 0, 0))), (1, .int x1), (2, .ref (ad (3, 0, x2_2, 0)))]) hx hb dX8_countUnlikeMatches_61 hl (k := 3) rfl rfl (by decide) rfl (fun ls hl => ?_)
        refine lv_goto (pc := 64) (tgt := 27) hx hb dX8_countUnlikeMatches_64 (by decide) ?_
        exact ih x1 x2_2 (x3 + 1) M42 _ _ _ hw hP hS (lv_sub hl [1, 2, 3, 0] rfl) hx2
      · replace hw := if_f h hw
        refine lv_aload_n (pc := 48) hx hb dX8_countUnlikeMatches_48 rfl (lv_at hl 0 rfl) ?_
        refine gf_301 (pc := 49) C hP h0 dX8_countUnlikeMatches_49 ?_
        refine lv_aload_n (pc := 52) hx hb dX8_countUnlikeMatches_52 rfl (lv_at hl 2 rfl) ?_
        refine gf_141 (pc := 53) C hP hx2 dX8_countUnlikeMatches_53 ?_
        refine lv_iload_n (pc := 56) hx hb dX8_countUnlikeMatches_56 rfl (lv_at hl 3 rfl) ?_
        refine r_aald4 (pc := 57) C hP (cl_3_1 hC hx2) hw.1 dX8_countUnlikeMatches_57 ?_
        have hi57 := in_lt hw.1
        replace hw := hw.2
        refine r_cVV (pc := 58) (rest := []) (As := [.ref (ad (5, 0, x2_2, x3.toNatClampNeg))]) C hl.1 hP hS (k_X4_note l G hC (cl_0_7 hC h0) (cl_4_e hC (cl_3_1 hC hx2) hi57) (fun _ _ _ _ => rfl) hw) (cl_0_7 hC h0) rfl rfl mw_637 mw_638 mw_639 mw_63 mw_640 ⟨rfl, rfl⟩ hd_X4_note rfl rfl ⟨Nat.le_of_ble_eq_true rfl, Nat.le_of_ble_eq_true rfl⟩ (Nat.le_of_ble_eq_true rfl) ⟨Nat.zero_le _, Nat.zero_le _⟩ dX8_countUnlikeMatches_58 (fun M58 H locs hw hP hS => ?_)
        refine lv_iinc (pc := 61) (v := x3 + 1) (lv' := [(3, .int (x3 + 1)), (0, .ref (ad (0, 0, 0, 0))), (1, .int x1), (2, .ref (ad (3, 0, x2_2, 0)))]) hx hb dX8_countUnlikeMatches_61 hl (k := 3) rfl rfl (by decide) rfl (fun ls hl => ?_)
        refine lv_goto (pc := 64) (tgt := 27) hx hb dX8_countUnlikeMatches_64 (by decide) ?_
        exact ih x1 x2_2 (x3 + 1) M58 _ _ _ hw hP hS (lv_sub hl [1, 2, 3, 0] rfl) hx2
set_option maxHeartbeats 4000000 in
set_option maxRecDepth 100000 in
theorem j_X8_countUnlikeMatches_9 (C : cx p s m args meth c cX8_countUnlikeMatches 4 (some .int) RX8 G) (hC : clo I) (h0 : I (0, 0, 0, 0)) {Q : Int32 → Mem → Prop} : ∀ (n : Nat), ∀ (x1 : Int32) (M : Mem) (H : Heap) (locs : List Loc) (ls : Array Slot), w_X8_countUnlikeMatches_9 Q n x1 M → wd G I ad M H → va_S (fA I ad) s.heap H locs → lv_has ls 4 [(0, .ref (ad (0, 0, 0, 0))), (1, .int x1)] → W p l e rm_X8_countUnlikeMatches s m args below meth c H locs 0 0 (MQ below (qI G I ad Q) args s 0 0 (fA I ad)) (F0 m 9 ls []) := by
  have hx := C.1
  have hb := C.2.1
  have hown := C.2.2.2.1
  have hts := C.2.2.2.2.1
  intro n
  induction n with
  | zero =>
    intro x1 M H locs ls hw hP hS hl
    rw [w_X8_countUnlikeMatches_9] at hw
    exact hw.elim
  | succ n ih =>
    intro x1 M H locs ls hw hP hS hl
    rw [w_X8_countUnlikeMatches_9] at hw
    refine lv_iload_n (pc := 9) hx hb dX8_countUnlikeMatches_9 rfl (lv_at hl 1 rfl) ?_
    refine lv_bipush (pc := 10) (v := (6 : Int32)) hx hb dX8_countUnlikeMatches_10 (by decide) ?_
    refine lv_icmp_ge (pc := 12) (tgt := 73) hx hb dX8_countUnlikeMatches_12 (by decide) (fun h => ?_) (fun h => ?_)
    · replace hw := if_t h hw
      refine lv_aload_n (pc := 73) hx hb dX8_countUnlikeMatches_73 rfl (lv_at hl 0 rfl) ?_
      refine gf_301 (pc := 74) C hP h0 dX8_countUnlikeMatches_74 ?_
      refine gf_258 (pc := 77) C hP (cl_0_7 hC h0) dX8_countUnlikeMatches_77 ?_
      exact r_iret (pc := 80) C hP hS hw dX8_countUnlikeMatches_80
    · replace hw := if_f h hw
      refine lv_aload_n (pc := 15) hx hb dX8_countUnlikeMatches_15 rfl (lv_at hl 0 rfl) ?_
      refine gf_294 (pc := 16) C hP h0 dX8_countUnlikeMatches_16 ?_
      refine gf_156 (pc := 19) C hP (cl_0_0 hC h0) dX8_countUnlikeMatches_19 ?_
      refine lv_iload_n (pc := 22) hx hb dX8_countUnlikeMatches_22 rfl (lv_at hl 1 rfl) ?_
      refine r_aald2 (pc := 23) C hP (cl_1_0 hC (cl_0_0 hC h0)) hw.1 dX8_countUnlikeMatches_23 ?_
      have hi23 := in_lt hw.1
      replace hw := hw.2
      refine lv_astore_n (pc := 24) (lv' := [(2, .ref (ad (3, 0, x1.toNatClampNeg, 0))), (0, .ref (ad (0, 0, 0, 0))), (1, .int x1)]) hx hb dX8_countUnlikeMatches_24 rfl hl (by decide) rfl (fun ls hl => ?_)
      refine lv_iconst (pc := 25) (v := (0 : Int32)) hx hb dX8_countUnlikeMatches_25 (by decide) ?_
      refine lv_istore_n (pc := 26) (lv' := [(3, .int (0 : Int32)), (2, .ref (ad (3, 0, x1.toNatClampNeg, 0))), (0, .ref (ad (0, 0, 0, 0))), (1, .int x1)]) hx hb dX8_countUnlikeMatches_26 rfl hl (by decide) rfl (fun ls hl => ?_)
      obtain ⟨n0, hw⟩ := hw
      exact j_X8_countUnlikeMatches_27 C hC h0 ih n0 x1 (x1.toNatClampNeg) (0 : Int32) M _ _ _ hw hP hS (lv_sub hl [2, 3, 1, 0] rfl) (cl_2_e hC (cl_1_0 hC (cl_0_0 hC h0)) hi23)
set_option maxHeartbeats 4000000 in
set_option maxRecDepth 100000 in
theorem j_X8_countUnlikeMatches_0 (C : cx p s m args meth c cX8_countUnlikeMatches 4 (some .int) RX8 G) (hC : clo I) (h0 : I (0, 0, 0, 0)) {Q : Int32 → Mem → Prop} : ∀ (M : Mem) (H : Heap) (locs : List Loc) (ls : Array Slot), w_X8_countUnlikeMatches Q M → wd G I ad M H → va_S (fA I ad) s.heap H locs → lv_has ls 4 [(0, .ref (ad (0, 0, 0, 0)))] → W p l e rm_X8_countUnlikeMatches s m args below meth c H locs 0 0 (MQ below (qI G I ad Q) args s 0 0 (fA I ad)) (F0 m 0 ls []) := by
  have hx := C.1
  have hb := C.2.1
  have hown := C.2.2.2.1
  have hts := C.2.2.2.2.1
  intro M H locs ls hw hP hS hl
  unfold w_X8_countUnlikeMatches at hw
  refine lv_aload_n (pc := 0) hx hb dX8_countUnlikeMatches_0 rfl (lv_at hl 0 rfl) ?_
  refine gf_301 (pc := 1) C hP h0 dX8_countUnlikeMatches_1 ?_
  refine r_cVV (pc := 4) (rest := []) (As := []) C hl.1 hP hS (k_X4_clear l G hC (cl_0_7 hC h0) hw) (cl_0_7 hC h0) rfl rfl mw_633 mw_634 mw_635 mw_63 mw_636 ⟨rfl, rfl⟩ hd_X4_clear rfl rfl ⟨Nat.le_of_ble_eq_true rfl, Nat.le_of_ble_eq_true rfl⟩ (Nat.le_of_ble_eq_true rfl) ⟨Nat.zero_le _, Nat.zero_le _⟩ dX8_countUnlikeMatches_4 (fun M4 H locs hw hP hS => ?_)
  refine lv_iconst (pc := 7) (v := (0 : Int32)) hx hb dX8_countUnlikeMatches_7 (by decide) ?_
  refine lv_istore_n (pc := 8) (lv' := [(1, .int (0 : Int32)), (0, .ref (ad (0, 0, 0, 0)))]) hx hb dX8_countUnlikeMatches_8 rfl hl (by decide) rfl (fun ls hl => ?_)
  obtain ⟨n0, hw⟩ := hw
  exact j_X8_countUnlikeMatches_9 C hC h0 n0 (0 : Int32) M4 _ _ _ hw hP hS (lv_sub hl [1, 0] rfl)
end
theorem k_X8_countUnlikeMatches (l : Launch) (G : GG) {I : ix → Prop} {ad : ix → Nat} (hC : clo I) (h0 : I (0, 0, 0, 0)) {Q : Int32 → Mem → Prop} {M : Mem} (hw : w_X8_countUnlikeMatches Q M) : Met l yX8_countUnlikeMatches (wW yX8_countUnlikeMatches cX8_countUnlikeMatches 4 (some .int)) rm_X8_countUnlikeMatches (va_Pc [.ref (ad (0, 0, 0, 0))] (fun U => wd G I ad M U.heap ∧ wK G U)) (qI G I ad Q) 0 0 (fA I ad) := met_of (by decide +kernel) (Nat.le_of_ble_eq_true rfl) (fun p e s m below meth c C hP hS ls hl => j_X8_countUnlikeMatches_0 C hC h0 _ _ _ _ hw hP hS hl)
section
variable {p : Program} {l : Launch} {e : Env} {s : State} {m : MethodId} {args : Array Value} {below : List Frame} {meth : Method} {c : Code} 
variable  {G : GG} {I : ix → Prop} {ad : ix → Nat}
set_option maxHeartbeats 4000000 in
set_option maxRecDepth 100000 in
theorem j_X8_weighBlocks_2 (C : cx p s m args meth c cX8_weighBlocks 2 none RX8 G) (hC : clo I) (h0 : I (0, 0, 0, 0)) {Q : Mem → Prop} : ∀ (n : Nat), ∀ (x1 : Int32) (M : Mem) (H : Heap) (locs : List Loc) (ls : Array Slot), w_X8_weighBlocks_2 Q n x1 M → wd G I ad M H → va_S (fA I ad) s.heap H locs → lv_has ls 2 [(0, .ref (ad (0, 0, 0, 0))), (1, .int x1)] → W p l e rm_X8_weighBlocks s m args below meth c H locs 0 0 (MQ below (qV G I ad Q) args s 0 0 (fA I ad)) (F0 m 2 ls []) := by
  have hx := C.1
  have hb := C.2.1
  have hown := C.2.2.2.1
  have hts := C.2.2.2.2.1
  intro n
  induction n with
  | zero =>
    intro x1 M H locs ls hw hP hS hl
    rw [w_X8_weighBlocks_2] at hw
    exact hw.elim
  | succ n ih =>
    intro x1 M H locs ls hw hP hS hl
    rw [w_X8_weighBlocks_2] at hw
    refine lv_iload_n (pc := 2) hx hb dX8_weighBlocks_2 rfl (lv_at hl 1 rfl) ?_
    refine lv_bipush (pc := 3) (v := (6 : Int32)) hx hb dX8_weighBlocks_3 (by decide) ?_
    refine lv_icmp_ge (pc := 5) (tgt := 33) hx hb dX8_weighBlocks_5 (by decide) (fun h => ?_) (fun h => ?_)
    · replace hw := if_t h hw
      exact r_vret (pc := 33) C hP hS hw dX8_weighBlocks_33
    · replace hw := if_f h hw
      refine lv_aload_n (pc := 8) hx hb dX8_weighBlocks_8 rfl (lv_at hl 0 rfl) ?_
      refine gf_300 (pc := 9) C hP h0 dX8_weighBlocks_9 ?_
      refine lv_iload_n (pc := 12) hx hb dX8_weighBlocks_12 rfl (lv_at hl 1 rfl) ?_
      refine lv_aload_n (pc := 13) hx hb dX8_weighBlocks_13 rfl (lv_at hl 0 rfl) ?_
      refine lv_aload_n (pc := 14) hx hb dX8_weighBlocks_14 rfl (lv_at hl 0 rfl) ?_
      refine gf_294 (pc := 15) C hP h0 dX8_weighBlocks_15 ?_
      refine gf_156 (pc := 18) C hP (cl_0_0 hC h0) dX8_weighBlocks_18 ?_
      refine lv_iload_n (pc := 21) hx hb dX8_weighBlocks_21 rfl (lv_at hl 1 rfl) ?_
      refine r_aald2 (pc := 22) C hP (cl_1_0 hC (cl_0_0 hC h0)) hw.1 dX8_weighBlocks_22 ?_
      have hi22 := in_lt hw.1
      replace hw := hw.2
      refine r_cVI (pc := 23) (rest := [.int x1, .ref (ad (25, 0, 0, 0))]) (As := [.ref (ad (3, 0, x1.toNatClampNeg, 0))]) C hl.1 hP hS (k_X8_chancesIn l G hC h0 (cl_2_e hC (cl_1_0 hC (cl_0_0 hC h0)) hi22) hw) h0 rfl rfl mw_601 mw_603 mw_23 mw_56 mw_604 ⟨rfl, rfl⟩ hd_X8_chancesIn rfl rfl ⟨Nat.le_of_ble_eq_true rfl, Nat.le_of_ble_eq_true rfl⟩ (Nat.le_of_ble_eq_true rfl) ⟨Nat.zero_le _, Nat.zero_le _⟩ dX8_weighBlocks_23 (fun r23 M23 H locs hw hP hS => ?_)
      refine r_iastK (pc := 26) (n := 6) (k := x1.toNatClampNeg) C hP hS (cl_0_6 hC h0) (fun _ _ _ _ => rfl) hw.1 rfl dX8_weighBlocks_26 (fun H locs hP hS => ?_)
      replace hw := hw.2
      refine lv_iinc (pc := 27) (v := x1 + 1) (lv' := [(1, .int (x1 + 1)), (0, .ref (ad (0, 0, 0, 0)))]) hx hb dX8_weighBlocks_27 hl (k := 1) rfl rfl (by decide) rfl (fun ls hl => ?_)
      refine lv_goto (pc := 30) (tgt := 2) hx hb dX8_weighBlocks_30 (by decide) ?_
      exact ih (x1 + 1) (mu M23 (25, 0, 0, 0) (x1.toNatClampNeg) r23) _ _ _ hw hP hS (lv_sub hl [1, 0] rfl)
set_option maxHeartbeats 4000000 in
set_option maxRecDepth 100000 in
theorem j_X8_weighBlocks_0 (C : cx p s m args meth c cX8_weighBlocks 2 none RX8 G) (hC : clo I) (h0 : I (0, 0, 0, 0)) {Q : Mem → Prop} : ∀ (M : Mem) (H : Heap) (locs : List Loc) (ls : Array Slot), w_X8_weighBlocks Q M → wd G I ad M H → va_S (fA I ad) s.heap H locs → lv_has ls 2 [(0, .ref (ad (0, 0, 0, 0)))] → W p l e rm_X8_weighBlocks s m args below meth c H locs 0 0 (MQ below (qV G I ad Q) args s 0 0 (fA I ad)) (F0 m 0 ls []) := by
  have hx := C.1
  have hb := C.2.1
  have hown := C.2.2.2.1
  have hts := C.2.2.2.2.1
  intro M H locs ls hw hP hS hl
  unfold w_X8_weighBlocks at hw
  refine lv_iconst (pc := 0) (v := (0 : Int32)) hx hb dX8_weighBlocks_0 (by decide) ?_
  refine lv_istore_n (pc := 1) (lv' := [(1, .int (0 : Int32)), (0, .ref (ad (0, 0, 0, 0)))]) hx hb dX8_weighBlocks_1 rfl hl (by decide) rfl (fun ls hl => ?_)
  obtain ⟨n0, hw⟩ := hw
  exact j_X8_weighBlocks_2 C hC h0 n0 (0 : Int32) M _ _ _ hw hP hS (lv_sub hl [1, 0] rfl)
end
theorem k_X8_weighBlocks (l : Launch) (G : GG) {I : ix → Prop} {ad : ix → Nat} (hC : clo I) (h0 : I (0, 0, 0, 0)) {Q : Mem → Prop} {M : Mem} (hw : w_X8_weighBlocks Q M) : Met l yX8_weighBlocks (wW yX8_weighBlocks cX8_weighBlocks 2 none) rm_X8_weighBlocks (va_Pc [.ref (ad (0, 0, 0, 0))] (fun U => wd G I ad M U.heap ∧ wK G U)) (qV G I ad Q) 0 0 (fA I ad) := met_of (by decide +kernel) (Nat.le_of_ble_eq_true rfl) (fun p e s m below meth c C hP hS ls hl => j_X8_weighBlocks_0 C hC h0 _ _ _ _ hw hP hS hl)
section
variable {p : Program} {l : Launch} {e : Env} {s : State} {m : MethodId} {args : Array Value} {below : List Frame} {meth : Method} {c : Code} 
variable  {G : GG} {I : ix → Prop} {ad : ix → Nat}
set_option maxHeartbeats 4000000 in
set_option maxRecDepth 100000 in
theorem j_X8_countScannedRows_4 (C : cx p s m args meth c cX8_countScannedRows 3 (some .int) RX8 G) (hC : clo I) (h0 : I (0, 0, 0, 0)) {Q : Int32 → Mem → Prop} : ∀ (n : Nat), ∀ (x1 : Int32) (x2 : Int32) (M : Mem) (H : Heap) (locs : List Loc) (ls : Array Slot), w_X8_countScannedRows_4 Q n x1 x2 M → wd G I ad M H → va_S (fA I ad) s.heap H locs → lv_has ls 3 [(0, .ref (ad (0, 0, 0, 0))), (1, .int x1), (2, .int x2)] → W p l e rm_X8_countScannedRows s m args below meth c H locs 0 0 (MQ below (qI G I ad Q) args s 0 0 (fA I ad)) (F0 m 4 ls []) := by
  have hx := C.1
  have hb := C.2.1
  have hown := C.2.2.2.1
  have hts := C.2.2.2.2.1
  intro n
  induction n with
  | zero =>
    intro x1 x2 M H locs ls hw hP hS hl
    rw [w_X8_countScannedRows_4] at hw
    exact hw.elim
  | succ n ih =>
    intro x1 x2 M H locs ls hw hP hS hl
    rw [w_X8_countScannedRows_4] at hw
    refine lv_iload_n (pc := 4) hx hb dX8_countScannedRows_4 rfl (lv_at hl 2 rfl) ?_
    refine lv_bipush (pc := 5) (v := (6 : Int32)) hx hb dX8_countScannedRows_5 (by decide) ?_
    refine lv_icmp_ge (pc := 7) (tgt := 44) hx hb dX8_countScannedRows_7 (by decide) (fun h => ?_) (fun h => ?_)
    · replace hw := if_t h hw
      refine lv_iload_n (pc := 44) hx hb dX8_countScannedRows_44 rfl (lv_at hl 1 rfl) ?_
      exact r_iret (pc := 45) C hP hS hw dX8_countScannedRows_45
    · replace hw := if_f h hw
      refine lv_aload_n (pc := 10) hx hb dX8_countScannedRows_10 rfl (lv_at hl 0 rfl) ?_
      refine gf_300 (pc := 11) C hP h0 dX8_countScannedRows_11 ?_
      refine lv_iload_n (pc := 14) hx hb dX8_countScannedRows_14 rfl (lv_at hl 2 rfl) ?_
      refine r_ialdK (pc := 15) (n := 6) (k := x2.toNatClampNeg) C hP (cl_0_6 hC h0) (fun _ _ _ _ => rfl) hw.1 rfl dX8_countScannedRows_15 ?_
      replace hw := hw.2
      refine r_cSI (pc := 16) (rest := []) (As := [.int (M.1 (25, 0, 0, 0) x2.toNatClampNeg)]) C hl.1 hP hS (k_X8_rulingOf l G hC  hw) mw_614 mw_615 mw_56 mw_616 ⟨rfl, rfl⟩ hd_X8_rulingOf rfl rfl ⟨Nat.le_of_ble_eq_true rfl, Nat.le_of_ble_eq_true rfl⟩ (Nat.le_of_ble_eq_true rfl) ⟨Nat.zero_le _, Nat.zero_le _⟩ dX8_countScannedRows_16 (fun r16 M16 H locs hw hP hS => ?_)
      refine lv_iconst (pc := 19) (v := (2 : Int32)) hx hb dX8_countScannedRows_19 (by decide) ?_
      refine lv_icmp_ne (pc := 20) (tgt := 38) hx hb dX8_countScannedRows_20 (by decide) (fun h => ?_) (fun h => ?_)
      · replace hw := if_f h hw
        refine lv_iinc (pc := 38) (v := x2 + 1) (lv' := [(2, .int (x2 + 1)), (0, .ref (ad (0, 0, 0, 0))), (1, .int x1)]) hx hb dX8_countScannedRows_38 hl (k := 2) rfl rfl (by decide) rfl (fun ls hl => ?_)
        refine lv_goto (pc := 41) (tgt := 4) hx hb dX8_countScannedRows_41 (by decide) ?_
        exact ih x1 (x2 + 1) M16 _ _ _ hw hP hS (lv_sub hl [1, 2, 0] rfl)
      · replace hw := if_t h hw
        refine lv_iload_n (pc := 23) hx hb dX8_countScannedRows_23 rfl (lv_at hl 1 rfl) ?_
        refine lv_aload_n (pc := 24) hx hb dX8_countScannedRows_24 rfl (lv_at hl 0 rfl) ?_
        refine gf_294 (pc := 25) C hP h0 dX8_countScannedRows_25 ?_
        refine gf_156 (pc := 28) C hP (cl_0_0 hC h0) dX8_countScannedRows_28 ?_
        refine lv_iload_n (pc := 31) hx hb dX8_countScannedRows_31 rfl (lv_at hl 2 rfl) ?_
        refine r_aald2 (pc := 32) C hP (cl_1_0 hC (cl_0_0 hC h0)) hw.1 dX8_countScannedRows_32 ?_
        have hi32 := in_lt hw.1
        replace hw := hw.2
        refine gf_139 (pc := 33) C hP (cl_2_e hC (cl_1_0 hC (cl_0_0 hC h0)) hi32) dX8_countScannedRows_33 ?_
        refine lv_iadd (pc := 36) hx hb dX8_countScannedRows_36 ?_
        refine lv_topi (fun x1_37 ex1_37 => ?_)
        replace hw := hw x1_37 ex1_37
        refine lv_istore_n (pc := 37) (lv' := [(1, .int x1_37), (0, .ref (ad (0, 0, 0, 0))), (2, .int x2)]) hx hb dX8_countScannedRows_37 rfl hl (by decide) rfl (fun ls hl => ?_)
        refine lv_iinc (pc := 38) (v := x2 + 1) (lv' := [(2, .int (x2 + 1)), (1, .int x1_37), (0, .ref (ad (0, 0, 0, 0)))]) hx hb dX8_countScannedRows_38 hl (k := 2) rfl rfl (by decide) rfl (fun ls hl => ?_)
        refine lv_goto (pc := 41) (tgt := 4) hx hb dX8_countScannedRows_41 (by decide) ?_
        exact ih x1_37 (x2 + 1) M16 _ _ _ hw hP hS (lv_sub hl [2, 1, 0] rfl)
set_option maxHeartbeats 4000000 in
set_option maxRecDepth 100000 in
theorem j_X8_countScannedRows_0 (C : cx p s m args meth c cX8_countScannedRows 3 (some .int) RX8 G) (hC : clo I) (h0 : I (0, 0, 0, 0)) {Q : Int32 → Mem → Prop} : ∀ (M : Mem) (H : Heap) (locs : List Loc) (ls : Array Slot), w_X8_countScannedRows Q M → wd G I ad M H → va_S (fA I ad) s.heap H locs → lv_has ls 3 [(0, .ref (ad (0, 0, 0, 0)))] → W p l e rm_X8_countScannedRows s m args below meth c H locs 0 0 (MQ below (qI G I ad Q) args s 0 0 (fA I ad)) (F0 m 0 ls []) := by
  have hx := C.1
  have hb := C.2.1
  have hown := C.2.2.2.1
  have hts := C.2.2.2.2.1
  intro M H locs ls hw hP hS hl
  unfold w_X8_countScannedRows at hw
  refine lv_iconst (pc := 0) (v := (0 : Int32)) hx hb dX8_countScannedRows_0 (by decide) ?_
  refine lv_istore_n (pc := 1) (lv' := [(1, .int (0 : Int32)), (0, .ref (ad (0, 0, 0, 0)))]) hx hb dX8_countScannedRows_1 rfl hl (by decide) rfl (fun ls hl => ?_)
  refine lv_iconst (pc := 2) (v := (0 : Int32)) hx hb dX8_countScannedRows_2 (by decide) ?_
  refine lv_istore_n (pc := 3) (lv' := [(2, .int (0 : Int32)), (1, .int (0 : Int32)), (0, .ref (ad (0, 0, 0, 0)))]) hx hb dX8_countScannedRows_3 rfl hl (by decide) rfl (fun ls hl => ?_)
  obtain ⟨n0, hw⟩ := hw
  exact j_X8_countScannedRows_4 C hC h0 n0 (0 : Int32) (0 : Int32) M _ _ _ hw hP hS (lv_sub hl [2, 1, 0] rfl)
end
theorem k_X8_countScannedRows (l : Launch) (G : GG) {I : ix → Prop} {ad : ix → Nat} (hC : clo I) (h0 : I (0, 0, 0, 0)) {Q : Int32 → Mem → Prop} {M : Mem} (hw : w_X8_countScannedRows Q M) : Met l yX8_countScannedRows (wW yX8_countScannedRows cX8_countScannedRows 3 (some .int)) rm_X8_countScannedRows (va_Pc [.ref (ad (0, 0, 0, 0))] (fun U => wd G I ad M U.heap ∧ wK G U)) (qI G I ad Q) 0 0 (fA I ad) := met_of (by decide +kernel) (Nat.le_of_ble_eq_true rfl) (fun p e s m below meth c C hP hS ls hl => j_X8_countScannedRows_0 C hC h0 _ _ _ _ hw hP hS hl)
section
variable {p : Program} {l : Launch} {e : Env} {s : State} {m : MethodId} {args : Array Value} {below : List Frame} {meth : Method} {c : Code} 
variable  {G : GG} {I : ix → Prop} {ad : ix → Nat}
set_option maxHeartbeats 4000000 in
set_option maxRecDepth 100000 in
theorem j_X8_blocksRuled_4 {a1 : Int32} (C : cx p s m args meth c cX8_blocksRuled 4 (some .int) RX8 G) (hC : clo I) (h0 : I (0, 0, 0, 0)) {Q : Int32 → Mem → Prop} : ∀ (n : Nat), ∀ (x2 : Int32) (x3 : Int32) (M : Mem) (H : Heap) (locs : List Loc) (ls : Array Slot), w_X8_blocksRuled_4 a1 Q n x2 x3 M → wd G I ad M H → va_S (fA I ad) s.heap H locs → lv_has ls 4 [(0, .ref (ad (0, 0, 0, 0))), (1, .int a1), (2, .int x2), (3, .int x3)] → W p l e rm_X8_blocksRuled s m args below meth c H locs 0 0 (MQ below (qI G I ad Q) args s 0 0 (fA I ad)) (F0 m 4 ls []) := by
  have hx := C.1
  have hb := C.2.1
  have hown := C.2.2.2.1
  have hts := C.2.2.2.2.1
  intro n
  induction n with
  | zero =>
    intro x2 x3 M H locs ls hw hP hS hl
    rw [w_X8_blocksRuled_4] at hw
    exact hw.elim
  | succ n ih =>
    intro x2 x3 M H locs ls hw hP hS hl
    rw [w_X8_blocksRuled_4] at hw
    refine lv_iload_n (pc := 4) hx hb dX8_blocksRuled_4 rfl (lv_at hl 3 rfl) ?_
    refine lv_bipush (pc := 5) (v := (6 : Int32)) hx hb dX8_blocksRuled_5 (by decide) ?_
    refine lv_icmp_ge (pc := 7) (tgt := 35) hx hb dX8_blocksRuled_7 (by decide) (fun h => ?_) (fun h => ?_)
    · replace hw := if_t h hw
      refine lv_iload_n (pc := 35) hx hb dX8_blocksRuled_35 rfl (lv_at hl 2 rfl) ?_
      exact r_iret (pc := 36) C hP hS hw dX8_blocksRuled_36
    · replace hw := if_f h hw
      refine lv_aload_n (pc := 10) hx hb dX8_blocksRuled_10 rfl (lv_at hl 0 rfl) ?_
      refine gf_300 (pc := 11) C hP h0 dX8_blocksRuled_11 ?_
      refine lv_iload_n (pc := 14) hx hb dX8_blocksRuled_14 rfl (lv_at hl 3 rfl) ?_
      refine r_ialdK (pc := 15) (n := 6) (k := x3.toNatClampNeg) C hP (cl_0_6 hC h0) (fun _ _ _ _ => rfl) hw.1 rfl dX8_blocksRuled_15 ?_
      replace hw := hw.2
      refine r_cSI (pc := 16) (rest := []) (As := [.int (M.1 (25, 0, 0, 0) x3.toNatClampNeg)]) C hl.1 hP hS (k_X8_rulingOf l G hC  hw) mw_614 mw_615 mw_56 mw_616 ⟨rfl, rfl⟩ hd_X8_rulingOf rfl rfl ⟨Nat.le_of_ble_eq_true rfl, Nat.le_of_ble_eq_true rfl⟩ (Nat.le_of_ble_eq_true rfl) ⟨Nat.zero_le _, Nat.zero_le _⟩ dX8_blocksRuled_16 (fun r16 M16 H locs hw hP hS => ?_)
      refine lv_iload_n (pc := 19) hx hb dX8_blocksRuled_19 rfl (lv_at hl 1 rfl) ?_
      refine lv_icmp_ne (pc := 20) (tgt := 29) hx hb dX8_blocksRuled_20 (by decide) (fun h => ?_) (fun h => ?_)
      · replace hw := if_f h hw
        refine lv_iinc (pc := 29) (v := x3 + 1) (lv' := [(3, .int (x3 + 1)), (0, .ref (ad (0, 0, 0, 0))), (1, .int a1), (2, .int x2)]) hx hb dX8_blocksRuled_29 hl (k := 3) rfl rfl (by decide) rfl (fun ls hl => ?_)
        refine lv_goto (pc := 32) (tgt := 4) hx hb dX8_blocksRuled_32 (by decide) ?_
        exact ih x2 (x3 + 1) M16 _ _ _ hw hP hS (lv_sub hl [1, 2, 3, 0] rfl)
      · replace hw := if_t h hw
        refine lv_iload_n (pc := 23) hx hb dX8_blocksRuled_23 rfl (lv_at hl 2 rfl) ?_
        refine lv_iconst (pc := 24) (v := (1 : Int32)) hx hb dX8_blocksRuled_24 (by decide) ?_
        refine lv_iload_n (pc := 25) hx hb dX8_blocksRuled_25 rfl (lv_at hl 3 rfl) ?_
        refine lv_ishl (pc := 26) hx hb dX8_blocksRuled_26 ?_
        refine lv_ior (pc := 27) hx hb dX8_blocksRuled_27 ?_
        refine lv_topi (fun x2_28 ex2_28 => ?_)
        replace hw := hw x2_28 ex2_28
        refine lv_istore_n (pc := 28) (lv' := [(2, .int x2_28), (0, .ref (ad (0, 0, 0, 0))), (1, .int a1), (3, .int x3)]) hx hb dX8_blocksRuled_28 rfl hl (by decide) rfl (fun ls hl => ?_)
        refine lv_iinc (pc := 29) (v := x3 + 1) (lv' := [(3, .int (x3 + 1)), (2, .int x2_28), (0, .ref (ad (0, 0, 0, 0))), (1, .int a1)]) hx hb dX8_blocksRuled_29 hl (k := 3) rfl rfl (by decide) rfl (fun ls hl => ?_)
        refine lv_goto (pc := 32) (tgt := 4) hx hb dX8_blocksRuled_32 (by decide) ?_
        exact ih x2_28 (x3 + 1) M16 _ _ _ hw hP hS (lv_sub hl [2, 3, 1, 0] rfl)
set_option maxHeartbeats 4000000 in
set_option maxRecDepth 100000 in
theorem j_X8_blocksRuled_0 {a1 : Int32} (C : cx p s m args meth c cX8_blocksRuled 4 (some .int) RX8 G) (hC : clo I) (h0 : I (0, 0, 0, 0)) {Q : Int32 → Mem → Prop} : ∀ (M : Mem) (H : Heap) (locs : List Loc) (ls : Array Slot), w_X8_blocksRuled a1 Q M → wd G I ad M H → va_S (fA I ad) s.heap H locs → lv_has ls 4 [(0, .ref (ad (0, 0, 0, 0))), (1, .int a1)] → W p l e rm_X8_blocksRuled s m args below meth c H locs 0 0 (MQ below (qI G I ad Q) args s 0 0 (fA I ad)) (F0 m 0 ls []) := by
  have hx := C.1
  have hb := C.2.1
  have hown := C.2.2.2.1
  have hts := C.2.2.2.2.1
  intro M H locs ls hw hP hS hl
  unfold w_X8_blocksRuled at hw
  refine lv_iconst (pc := 0) (v := (0 : Int32)) hx hb dX8_blocksRuled_0 (by decide) ?_
  refine lv_istore_n (pc := 1) (lv' := [(2, .int (0 : Int32)), (0, .ref (ad (0, 0, 0, 0))), (1, .int a1)]) hx hb dX8_blocksRuled_1 rfl hl (by decide) rfl (fun ls hl => ?_)
  refine lv_iconst (pc := 2) (v := (0 : Int32)) hx hb dX8_blocksRuled_2 (by decide) ?_
  refine lv_istore_n (pc := 3) (lv' := [(3, .int (0 : Int32)), (2, .int (0 : Int32)), (0, .ref (ad (0, 0, 0, 0))), (1, .int a1)]) hx hb dX8_blocksRuled_3 rfl hl (by decide) rfl (fun ls hl => ?_)
  obtain ⟨n0, hw⟩ := hw
  exact j_X8_blocksRuled_4 C hC h0 n0 (0 : Int32) (0 : Int32) M _ _ _ hw hP hS (lv_sub hl [2, 3, 1, 0] rfl)
end
theorem k_X8_blocksRuled (l : Launch) (G : GG) {I : ix → Prop} {ad : ix → Nat} (hC : clo I) {a1 : Int32} (h0 : I (0, 0, 0, 0)) {Q : Int32 → Mem → Prop} {M : Mem} (hw : w_X8_blocksRuled a1 Q M) : Met l yX8_blocksRuled (wW yX8_blocksRuled cX8_blocksRuled 4 (some .int)) rm_X8_blocksRuled (va_Pc [.ref (ad (0, 0, 0, 0)), .int a1] (fun U => wd G I ad M U.heap ∧ wK G U)) (qI G I ad Q) 0 0 (fA I ad) := met_of (by decide +kernel) (Nat.le_of_ble_eq_true rfl) (fun p e s m below meth c C hP hS ls hl => j_X8_blocksRuled_0 C hC h0 _ _ _ _ hw hP hS hl)
section
variable {p : Program} {l : Launch} {e : Env} {s : State} {m : MethodId} {args : Array Value} {below : List Frame} {meth : Method} {c : Code} 
variable  {G : GG} {I : ix → Prop} {ad : ix → Nat}
set_option maxHeartbeats 4000000 in
set_option maxRecDepth 100000 in
theorem j_X8_answer_0 {a1 : Int32} (C : cx p s m args meth c cX8_answer 2 (some .int) RX8 G) (hC : clo I) (h0 : I (0, 0, 0, 0)) {Q : Int32 → Mem → Prop} : ∀ (M : Mem) (H : Heap) (locs : List Loc) (ls : Array Slot), w_X8_answer a1 Q M → wd G I ad M H → va_S (fA I ad) s.heap H locs → lv_has ls 2 [(0, .ref (ad (0, 0, 0, 0))), (1, .int a1)] → W p l e rm_X8_answer s m args below meth c H locs 0 0 (MQ below (qI G I ad Q) args s 0 0 (fA I ad)) (F0 m 0 ls []) := by
  have hx := C.1
  have hb := C.2.1
  have hown := C.2.2.2.1
  have hts := C.2.2.2.2.1
  intro M H locs ls hw hP hS hl
  unfold w_X8_answer at hw
  refine lv_iload_n (pc := 0) hx hb dX8_answer_0 rfl (lv_at hl 1 rfl) ?_
  refine lv_if_lt (pc := 1) (tgt := 9) hx hb dX8_answer_1 (by decide) (fun h => ?_) (fun h => ?_)
  · replace hw := if_t h hw
    refine lv_bipush (pc := 9) (v := (-2 : Int32)) hx hb dX8_answer_9 (by decide) ?_
    exact r_iret (pc := 11) C hP hS hw dX8_answer_11
  · replace hw := if_f h hw
    refine lv_iload_n (pc := 4) hx hb dX8_answer_4 rfl (lv_at hl 1 rfl) ?_
    refine lv_iconst (pc := 5) (v := (5 : Int32)) hx hb dX8_answer_5 (by decide) ?_
    refine lv_icmp_le (pc := 6) (tgt := 12) hx hb dX8_answer_6 (by decide) (fun h => ?_) (fun h => ?_)
    · replace hw := if_t h hw
      refine lv_aload_n (pc := 12) hx hb dX8_answer_12 rfl (lv_at hl 0 rfl) ?_
      refine gf_296 (pc := 13) C hP h0 dX8_answer_13 ?_
      refine r_cVI (pc := 16) (rest := []) (As := []) C hl.1 hP hS (k_X1_isFaulty l G hC (cl_0_2 hC h0) hw) (cl_0_2 hC h0) rfl rfl mw_486 mw_445 mw_446 mw_60 mw_447 ⟨rfl, rfl⟩ hd_X1_isFaulty rfl rfl ⟨Nat.le_of_ble_eq_true rfl, Nat.le_of_ble_eq_true rfl⟩ (Nat.le_of_ble_eq_true rfl) ⟨Nat.zero_le _, Nat.zero_le _⟩ dX8_answer_16 (fun r16 M16 H locs hw hP hS => ?_)
      refine lv_if_eq (pc := 19) (tgt := 25) hx hb dX8_answer_19 (by decide) (fun h => ?_) (fun h => ?_)
      · replace hw := if_t h hw
        refine lv_iload_n (pc := 25) hx hb dX8_answer_25 rfl (lv_at hl 1 rfl) ?_
        by_cases hk0 : a1 = (0 : Int32)
        · replace hw := if_t hk0 hw
          refine lv_tableIn (pc := 26) (tgt := 52) (off := 26) hx hb dX8_answer_26 (by rw [hk0]; decide) (by rw [hk0]; decide) (by rw [hk0]; rfl) (by decide) ?_
          refine lv_aload_n (pc := 52) hx hb dX8_answer_52 rfl (lv_at hl 0 rfl) ?_
          refine r_cVI (pc := 53) (rest := []) (As := []) C hl.1 hP hS (k_X8_countMatches l G hC h0 hw) h0 rfl rfl mw_621 mw_623 mw_25 mw_56 mw_624 ⟨rfl, rfl⟩ hd_X8_countMatches rfl rfl ⟨Nat.le_of_ble_eq_true rfl, Nat.le_of_ble_eq_true rfl⟩ (Nat.le_of_ble_eq_true rfl) ⟨Nat.zero_le _, Nat.zero_le _⟩ dX8_answer_53 (fun r53 M53 H locs hw hP hS => ?_)
          exact r_iret (pc := 56) C hP hS hw dX8_answer_56
        · replace hw := if_f hk0 hw
          by_cases hk1 : a1 = (1 : Int32)
          · replace hw := if_t hk1 hw
            refine lv_tableIn (pc := 26) (tgt := 57) (off := 31) hx hb dX8_answer_26 (by rw [hk1]; decide) (by rw [hk1]; decide) (by rw [hk1]; rfl) (by decide) ?_
            refine lv_aload_n (pc := 57) hx hb dX8_answer_57 rfl (lv_at hl 0 rfl) ?_
            refine r_cVI (pc := 58) (rest := []) (As := []) C hl.1 hP hS (k_X8_countUnlikeMatches l G hC h0 hw) h0 rfl rfl mw_629 mw_631 mw_27 mw_56 mw_632 ⟨rfl, rfl⟩ hd_X8_countUnlikeMatches rfl rfl ⟨Nat.le_of_ble_eq_true rfl, Nat.le_of_ble_eq_true rfl⟩ (Nat.le_of_ble_eq_true rfl) ⟨Nat.zero_le _, Nat.zero_le _⟩ dX8_answer_58 (fun r58 M58 H locs hw hP hS => ?_)
            exact r_iret (pc := 61) C hP hS hw dX8_answer_61
          · replace hw := if_f hk1 hw
            by_cases hk2 : a1 = (2 : Int32)
            · replace hw := if_t hk2 hw
              refine lv_tableIn (pc := 26) (tgt := 62) (off := 36) hx hb dX8_answer_26 (by rw [hk2]; decide) (by rw [hk2]; decide) (by rw [hk2]; rfl) (by decide) ?_
              refine lv_aload_n (pc := 62) hx hb dX8_answer_62 rfl (lv_at hl 0 rfl) ?_
              refine r_cVV (pc := 63) (rest := []) (As := []) C hl.1 hP hS (k_X8_weighBlocks l G hC h0 hw) h0 rfl rfl mw_643 mw_645 mw_28 mw_56 mw_646 ⟨rfl, rfl⟩ hd_X8_weighBlocks rfl rfl ⟨Nat.le_of_ble_eq_true rfl, Nat.le_of_ble_eq_true rfl⟩ (Nat.le_of_ble_eq_true rfl) ⟨Nat.zero_le _, Nat.zero_le _⟩ dX8_answer_63 (fun M63 H locs hw hP hS => ?_)
              refine lv_aload_n (pc := 66) hx hb dX8_answer_66 rfl (lv_at hl 0 rfl) ?_
              refine r_cVI (pc := 67) (rest := []) (As := []) C hl.1 hP hS (k_X8_countScannedRows l G hC h0 hw) h0 rfl rfl mw_647 mw_649 mw_29 mw_56 mw_650 ⟨rfl, rfl⟩ hd_X8_countScannedRows rfl rfl ⟨Nat.le_of_ble_eq_true rfl, Nat.le_of_ble_eq_true rfl⟩ (Nat.le_of_ble_eq_true rfl) ⟨Nat.zero_le _, Nat.zero_le _⟩ dX8_answer_67 (fun r67 M67 H locs hw hP hS => ?_)
              exact r_iret (pc := 70) C hP hS hw dX8_answer_70
            · replace hw := if_f hk2 hw
              refine lv_tableOut (pc := 26) (tgt := 71) hx hb dX8_answer_26 (by have q0 := lv_neT (a := 0) hk0 rfl; have q1 := lv_neT (a := 1) hk1 rfl; have q2 := lv_neT (a := 2) hk2 rfl; omega) (by decide) ?_
              refine lv_aload_n (pc := 71) hx hb dX8_answer_71 rfl (lv_at hl 0 rfl) ?_
              refine r_cVV (pc := 72) (rest := []) (As := []) C hl.1 hP hS (k_X8_weighBlocks l G hC h0 hw) h0 rfl rfl mw_643 mw_645 mw_28 mw_56 mw_646 ⟨rfl, rfl⟩ hd_X8_weighBlocks rfl rfl ⟨Nat.le_of_ble_eq_true rfl, Nat.le_of_ble_eq_true rfl⟩ (Nat.le_of_ble_eq_true rfl) ⟨Nat.zero_le _, Nat.zero_le _⟩ dX8_answer_72 (fun M72 H locs hw hP hS => ?_)
              refine lv_aload_n (pc := 75) hx hb dX8_answer_75 rfl (lv_at hl 0 rfl) ?_
              refine lv_iload_n (pc := 76) hx hb dX8_answer_76 rfl (lv_at hl 1 rfl) ?_
              refine lv_iconst (pc := 77) (v := (3 : Int32)) hx hb dX8_answer_77 (by decide) ?_
              refine lv_isub (pc := 78) hx hb dX8_answer_78 ?_
              refine r_cVI (pc := 79) (rest := []) (As := [.int (a1 - (3 : Int32))]) C hl.1 hP hS (k_X8_blocksRuled l G hC h0 hw) h0 rfl rfl mw_651 mw_653 mw_30 mw_56 mw_654 ⟨rfl, rfl⟩ hd_X8_blocksRuled rfl rfl ⟨Nat.le_of_ble_eq_true rfl, Nat.le_of_ble_eq_true rfl⟩ (Nat.le_of_ble_eq_true rfl) ⟨Nat.zero_le _, Nat.zero_le _⟩ dX8_answer_79 (fun r79 M79 H locs hw hP hS => ?_)
              exact r_iret (pc := 82) C hP hS hw dX8_answer_82
      · replace hw := if_f h hw
        refine lv_bipush (pc := 22) (v := (-5 : Int32)) hx hb dX8_answer_22 (by decide) ?_
        exact r_iret (pc := 24) C hP hS hw dX8_answer_24
    · replace hw := if_f h hw
      refine lv_bipush (pc := 9) (v := (-2 : Int32)) hx hb dX8_answer_9 (by decide) ?_
      exact r_iret (pc := 11) C hP hS hw dX8_answer_11
end
theorem k_X8_answer (l : Launch) (G : GG) {I : ix → Prop} {ad : ix → Nat} (hC : clo I) {a1 : Int32} (h0 : I (0, 0, 0, 0)) {Q : Int32 → Mem → Prop} {M : Mem} (hw : w_X8_answer a1 Q M) : Met l yX8_answer (wW yX8_answer cX8_answer 2 (some .int)) rm_X8_answer (va_Pc [.ref (ad (0, 0, 0, 0)), .int a1] (fun U => wd G I ad M U.heap ∧ wK G U)) (qI G I ad Q) 0 0 (fA I ad) := met_of (by decide +kernel) (Nat.le_of_ble_eq_true rfl) (fun p e s m below meth c C hP hS ls hl => j_X8_answer_0 C hC h0 _ _ _ _ hw hP hS hl)
section
variable {p : Program} {l : Launch} {e : Env} {s : State} {m : MethodId} {args : Array Value} {below : List Frame} {meth : Method} {c : Code} 
variable  {G : GG} {I : ix → Prop} {ad : ix → Nat}
set_option maxHeartbeats 4000000 in
set_option maxRecDepth 100000 in
theorem j_X8_tallyMatches_28 {a1 : Int32} (C : cx p s m args meth c cX8_tallyMatches 5 none RX8 G) (hC : clo I) (h0 : I (0, 0, 0, 0)) {Q : Mem → Prop} {B9 : Int32 → Mem → Prop} (hB9 : ∀ (x2 : Int32) (M : Mem) (H : Heap) (locs : List Loc) (ls : Array Slot), B9 x2 M → wd G I ad M H → va_S (fA I ad) s.heap H locs → lv_has ls 5 [(0, .ref (ad (0, 0, 0, 0))), (1, .int a1), (2, .int x2)] → W p l e rm_X8_tallyMatches s m args below meth c H locs 0 0 (MQ below (qV G I ad Q) args s 0 0 (fA I ad)) (F0 m 9 ls [])) : ∀ (n : Nat), ∀ (x2 : Int32) (x3_2 : Nat) (x4 : Int32) (M : Mem) (H : Heap) (locs : List Loc) (ls : Array Slot), w_X8_tallyMatches_28 a1 Q B9 n x2 x3_2 x4 M → wd G I ad M H → va_S (fA I ad) s.heap H locs → lv_has ls 5 [(0, .ref (ad (0, 0, 0, 0))), (1, .int a1), (2, .int x2), (3, .ref (ad (3, 0, x3_2, 0))), (4, .int x4)] → I (3, 0, x3_2, 0) → W p l e rm_X8_tallyMatches s m args below meth c H locs 0 0 (MQ below (qV G I ad Q) args s 0 0 (fA I ad)) (F0 m 28 ls []) := by
  have hx := C.1
  have hb := C.2.1
  have hown := C.2.2.2.1
  have hts := C.2.2.2.2.1
  intro n
  induction n with
  | zero =>
    intro x2 x3_2 x4 M H locs ls hw hP hS hl hx3
    rw [w_X8_tallyMatches_28] at hw
    exact hw.elim
  | succ n ih =>
    intro x2 x3_2 x4 M H locs ls hw hP hS hl hx3
    rw [w_X8_tallyMatches_28] at hw
    refine lv_iload (pc := 28) hx hb dX8_tallyMatches_28 (lv_at hl 4 rfl) ?_
    refine lv_aload_n (pc := 30) hx hb dX8_tallyMatches_30 rfl (lv_at hl 3 rfl) ?_
    refine gf_139 (pc := 31) C hP hx3 dX8_tallyMatches_31 ?_
    refine lv_icmp_ge (pc := 34) (tgt := 73) hx hb dX8_tallyMatches_34 (by decide) (fun h => ?_) (fun h => ?_)
    · replace hw := if_t h hw
      refine lv_iinc (pc := 73) (v := x2 + 1) (lv' := [(2, .int (x2 + 1)), (0, .ref (ad (0, 0, 0, 0))), (1, .int a1), (3, .ref (ad (3, 0, x3_2, 0))), (4, .int x4)]) hx hb dX8_tallyMatches_73 hl (k := 2) rfl rfl (by decide) rfl (fun ls hl => ?_)
      refine lv_goto (pc := 76) (tgt := 9) hx hb dX8_tallyMatches_76 (by decide) ?_
      exact hB9 (x2 + 1) M _ _ _ hw hP hS (lv_sub hl [1, 2, 0] rfl)
    · replace hw := if_f h hw
      refine lv_aload_n (pc := 37) hx hb dX8_tallyMatches_37 rfl (lv_at hl 0 rfl) ?_
      refine lv_aload_n (pc := 38) hx hb dX8_tallyMatches_38 rfl (lv_at hl 3 rfl) ?_
      refine gf_141 (pc := 39) C hP hx3 dX8_tallyMatches_39 ?_
      refine lv_iload (pc := 42) hx hb dX8_tallyMatches_42 (lv_at hl 4 rfl) ?_
      refine r_aald4 (pc := 44) C hP (cl_3_1 hC hx3) hw.1 dX8_tallyMatches_44 ?_
      have hi44 := in_lt hw.1
      replace hw := hw.2
      refine r_cVI (pc := 45) (rest := []) (As := [.ref (ad (5, 0, x3_2, x4.toNatClampNeg))]) C hl.1 hP hS (k_X8_isMatch l G hC h0 (cl_4_e hC (cl_3_1 hC hx3) hi44) (fun _ _ _ _ => rfl) hw) h0 rfl rfl mw_625 mw_627 mw_26 mw_56 mw_628 ⟨rfl, rfl⟩ hd_X8_isMatch rfl rfl ⟨Nat.le_of_ble_eq_true rfl, Nat.le_of_ble_eq_true rfl⟩ (Nat.le_of_ble_eq_true rfl) ⟨Nat.zero_le _, Nat.zero_le _⟩ dX8_tallyMatches_45 (fun r45 M45 H locs hw hP hS => ?_)
      refine lv_if_eq (pc := 48) (tgt := 67) hx hb dX8_tallyMatches_48 (by decide) (fun h => ?_) (fun h => ?_)
      · replace hw := if_t h hw
        refine lv_iinc (pc := 67) (v := x4 + 1) (lv' := [(4, .int (x4 + 1)), (0, .ref (ad (0, 0, 0, 0))), (1, .int a1), (2, .int x2), (3, .ref (ad (3, 0, x3_2, 0)))]) hx hb dX8_tallyMatches_67 hl (k := 4) rfl rfl (by decide) rfl (fun ls hl => ?_)
        refine lv_goto (pc := 70) (tgt := 28) hx hb dX8_tallyMatches_70 (by decide) ?_
        exact ih x2 x3_2 (x4 + 1) M45 _ _ _ hw hP hS (lv_sub hl [1, 2, 3, 4, 0] rfl) hx3
      · replace hw := if_f h hw
        refine lv_aload_n (pc := 51) hx hb dX8_tallyMatches_51 rfl (lv_at hl 0 rfl) ?_
        refine gf_302 (pc := 52) C hP h0 dX8_tallyMatches_52 ?_
        refine lv_aload_n (pc := 55) hx hb dX8_tallyMatches_55 rfl (lv_at hl 3 rfl) ?_
        refine gf_141 (pc := 56) C hP hx3 dX8_tallyMatches_56 ?_
        refine lv_iload (pc := 59) hx hb dX8_tallyMatches_59 (lv_at hl 4 rfl) ?_
        refine r_aald4 (pc := 61) C hP (cl_3_1 hC hx3) hw.1 dX8_tallyMatches_61 ?_
        have hi61 := in_lt hw.1
        replace hw := hw.2
        refine lv_iload_n (pc := 62) hx hb dX8_tallyMatches_62 rfl (lv_at hl 1 rfl) ?_
        refine r_ialdK (pc := 63) (n := 4) (k := a1.toNatClampNeg) C hP (cl_4_e hC (cl_3_1 hC hx3) hi61) (fun _ _ _ _ => rfl) hw.1 rfl dX8_tallyMatches_63 ?_
        replace hw := hw.2
        refine r_cVV (pc := 64) (rest := []) (As := [.int (M45.1 (5, 0, x3_2, x4.toNatClampNeg) a1.toNatClampNeg)]) C hl.1 hP hS (k_X7_note l G hC (cl_0_8 hC h0) hw) (cl_0_8 hC h0) rfl rfl mw_668 mw_669 mw_670 mw_64 mw_671 ⟨rfl, rfl⟩ hd_X7_note rfl rfl ⟨Nat.le_of_ble_eq_true rfl, Nat.le_of_ble_eq_true rfl⟩ (Nat.le_of_ble_eq_true rfl) ⟨Nat.zero_le _, Nat.zero_le _⟩ dX8_tallyMatches_64 (fun M64 H locs hw hP hS => ?_)
        refine lv_iinc (pc := 67) (v := x4 + 1) (lv' := [(4, .int (x4 + 1)), (0, .ref (ad (0, 0, 0, 0))), (1, .int a1), (2, .int x2), (3, .ref (ad (3, 0, x3_2, 0)))]) hx hb dX8_tallyMatches_67 hl (k := 4) rfl rfl (by decide) rfl (fun ls hl => ?_)
        refine lv_goto (pc := 70) (tgt := 28) hx hb dX8_tallyMatches_70 (by decide) ?_
        exact ih x2 x3_2 (x4 + 1) M64 _ _ _ hw hP hS (lv_sub hl [1, 2, 3, 4, 0] rfl) hx3
set_option maxHeartbeats 4000000 in
set_option maxRecDepth 100000 in
theorem j_X8_tallyMatches_9 {a1 : Int32} (C : cx p s m args meth c cX8_tallyMatches 5 none RX8 G) (hC : clo I) (h0 : I (0, 0, 0, 0)) {Q : Mem → Prop} : ∀ (n : Nat), ∀ (x2 : Int32) (M : Mem) (H : Heap) (locs : List Loc) (ls : Array Slot), w_X8_tallyMatches_9 a1 Q n x2 M → wd G I ad M H → va_S (fA I ad) s.heap H locs → lv_has ls 5 [(0, .ref (ad (0, 0, 0, 0))), (1, .int a1), (2, .int x2)] → W p l e rm_X8_tallyMatches s m args below meth c H locs 0 0 (MQ below (qV G I ad Q) args s 0 0 (fA I ad)) (F0 m 9 ls []) := by
  have hx := C.1
  have hb := C.2.1
  have hown := C.2.2.2.1
  have hts := C.2.2.2.2.1
  intro n
  induction n with
  | zero =>
    intro x2 M H locs ls hw hP hS hl
    rw [w_X8_tallyMatches_9] at hw
    exact hw.elim
  | succ n ih =>
    intro x2 M H locs ls hw hP hS hl
    rw [w_X8_tallyMatches_9] at hw
    refine lv_iload_n (pc := 9) hx hb dX8_tallyMatches_9 rfl (lv_at hl 2 rfl) ?_
    refine lv_bipush (pc := 10) (v := (6 : Int32)) hx hb dX8_tallyMatches_10 (by decide) ?_
    refine lv_icmp_ge (pc := 12) (tgt := 79) hx hb dX8_tallyMatches_12 (by decide) (fun h => ?_) (fun h => ?_)
    · replace hw := if_t h hw
      exact r_vret (pc := 79) C hP hS hw dX8_tallyMatches_79
    · replace hw := if_f h hw
      refine lv_aload_n (pc := 15) hx hb dX8_tallyMatches_15 rfl (lv_at hl 0 rfl) ?_
      refine gf_294 (pc := 16) C hP h0 dX8_tallyMatches_16 ?_
      refine gf_156 (pc := 19) C hP (cl_0_0 hC h0) dX8_tallyMatches_19 ?_
      refine lv_iload_n (pc := 22) hx hb dX8_tallyMatches_22 rfl (lv_at hl 2 rfl) ?_
      refine r_aald2 (pc := 23) C hP (cl_1_0 hC (cl_0_0 hC h0)) hw.1 dX8_tallyMatches_23 ?_
      have hi23 := in_lt hw.1
      replace hw := hw.2
      refine lv_astore_n (pc := 24) (lv' := [(3, .ref (ad (3, 0, x2.toNatClampNeg, 0))), (0, .ref (ad (0, 0, 0, 0))), (1, .int a1), (2, .int x2)]) hx hb dX8_tallyMatches_24 rfl hl (by decide) rfl (fun ls hl => ?_)
      refine lv_iconst (pc := 25) (v := (0 : Int32)) hx hb dX8_tallyMatches_25 (by decide) ?_
      refine lv_istore (pc := 26) (lv' := [(4, .int (0 : Int32)), (3, .ref (ad (3, 0, x2.toNatClampNeg, 0))), (0, .ref (ad (0, 0, 0, 0))), (1, .int a1), (2, .int x2)]) hx hb dX8_tallyMatches_26 hl (by decide) rfl (fun ls hl => ?_)
      obtain ⟨n0, hw⟩ := hw
      exact j_X8_tallyMatches_28 C hC h0 ih n0 x2 (x2.toNatClampNeg) (0 : Int32) M _ _ _ hw hP hS (lv_sub hl [2, 3, 4, 1, 0] rfl) (cl_2_e hC (cl_1_0 hC (cl_0_0 hC h0)) hi23)
set_option maxHeartbeats 4000000 in
set_option maxRecDepth 100000 in
theorem j_X8_tallyMatches_0 {a1 : Int32} (C : cx p s m args meth c cX8_tallyMatches 5 none RX8 G) (hC : clo I) (h0 : I (0, 0, 0, 0)) {Q : Mem → Prop} : ∀ (M : Mem) (H : Heap) (locs : List Loc) (ls : Array Slot), w_X8_tallyMatches a1 Q M → wd G I ad M H → va_S (fA I ad) s.heap H locs → lv_has ls 5 [(0, .ref (ad (0, 0, 0, 0))), (1, .int a1)] → W p l e rm_X8_tallyMatches s m args below meth c H locs 0 0 (MQ below (qV G I ad Q) args s 0 0 (fA I ad)) (F0 m 0 ls []) := by
  have hx := C.1
  have hb := C.2.1
  have hown := C.2.2.2.1
  have hts := C.2.2.2.2.1
  intro M H locs ls hw hP hS hl
  unfold w_X8_tallyMatches at hw
  refine lv_aload_n (pc := 0) hx hb dX8_tallyMatches_0 rfl (lv_at hl 0 rfl) ?_
  refine gf_302 (pc := 1) C hP h0 dX8_tallyMatches_1 ?_
  refine r_cVV (pc := 4) (rest := []) (As := []) C hl.1 hP hS (k_X7_clear l G hC (cl_0_8 hC h0) hw) (cl_0_8 hC h0) rfl rfl mw_667 mw_273 mw_274 mw_64 mw_275 ⟨rfl, rfl⟩ hd_X7_clear rfl rfl ⟨Nat.le_of_ble_eq_true rfl, Nat.le_of_ble_eq_true rfl⟩ (Nat.le_of_ble_eq_true rfl) ⟨Nat.zero_le _, Nat.zero_le _⟩ dX8_tallyMatches_4 (fun M4 H locs hw hP hS => ?_)
  refine lv_iconst (pc := 7) (v := (0 : Int32)) hx hb dX8_tallyMatches_7 (by decide) ?_
  refine lv_istore_n (pc := 8) (lv' := [(2, .int (0 : Int32)), (0, .ref (ad (0, 0, 0, 0))), (1, .int a1)]) hx hb dX8_tallyMatches_8 rfl hl (by decide) rfl (fun ls hl => ?_)
  obtain ⟨n0, hw⟩ := hw
  exact j_X8_tallyMatches_9 C hC h0 n0 (0 : Int32) M4 _ _ _ hw hP hS (lv_sub hl [1, 2, 0] rfl)
end
theorem k_X8_tallyMatches (l : Launch) (G : GG) {I : ix → Prop} {ad : ix → Nat} (hC : clo I) {a1 : Int32} (h0 : I (0, 0, 0, 0)) {Q : Mem → Prop} {M : Mem} (hw : w_X8_tallyMatches a1 Q M) : Met l yX8_tallyMatches (wW yX8_tallyMatches cX8_tallyMatches 5 none) rm_X8_tallyMatches (va_Pc [.ref (ad (0, 0, 0, 0)), .int a1] (fun U => wd G I ad M U.heap ∧ wK G U)) (qV G I ad Q) 0 0 (fA I ad) := met_of (by decide +kernel) (Nat.le_of_ble_eq_true rfl) (fun p e s m below meth c C hP hS ls hl => j_X8_tallyMatches_0 C hC h0 _ _ _ _ hw hP hS hl)
section
variable {p : Program} {l : Launch} {e : Env} {s : State} {m : MethodId} {args : Array Value} {below : List Frame} {meth : Method} {c : Code} 
variable  {G : GG} {I : ix → Prop} {ad : ix → Nat}
set_option maxHeartbeats 4000000 in
set_option maxRecDepth 100000 in
theorem j_X8_countRowsToRead_4 {a1 : Int32} (C : cx p s m args meth c cX8_countRowsToRead 5 (some .int) RX8 G) (hC : clo I) (h0 : I (0, 0, 0, 0)) {Q : Int32 → Mem → Prop} : ∀ (n : Nat), ∀ (x2 : Int32) (x3 : Int32) (M : Mem) (H : Heap) (locs : List Loc) (ls : Array Slot), w_X8_countRowsToRead_4 a1 Q n x2 x3 M → wd G I ad M H → va_S (fA I ad) s.heap H locs → lv_has ls 5 [(0, .ref (ad (0, 0, 0, 0))), (1, .int a1), (2, .int x2), (3, .int x3)] → W p l e rm_X8_countRowsToRead s m args below meth c H locs 0 0 (MQ below (qI G I ad Q) args s 0 0 (fA I ad)) (F0 m 4 ls []) := by
  have hx := C.1
  have hb := C.2.1
  have hown := C.2.2.2.1
  have hts := C.2.2.2.2.1
  intro n
  induction n with
  | zero =>
    intro x2 x3 M H locs ls hw hP hS hl
    rw [w_X8_countRowsToRead_4] at hw
    exact hw.elim
  | succ n ih =>
    intro x2 x3 M H locs ls hw hP hS hl
    rw [w_X8_countRowsToRead_4] at hw
    refine lv_iload_n (pc := 4) hx hb dX8_countRowsToRead_4 rfl (lv_at hl 3 rfl) ?_
    refine lv_bipush (pc := 5) (v := (6 : Int32)) hx hb dX8_countRowsToRead_5 (by decide) ?_
    refine lv_icmp_ge (pc := 7) (tgt := 70) hx hb dX8_countRowsToRead_7 (by decide) (fun h => ?_) (fun h => ?_)
    · replace hw := if_t h hw
      refine lv_iload_n (pc := 70) hx hb dX8_countRowsToRead_70 rfl (lv_at hl 2 rfl) ?_
      exact r_iret (pc := 71) C hP hS hw dX8_countRowsToRead_71
    · replace hw := if_f h hw
      refine lv_aload_n (pc := 10) hx hb dX8_countRowsToRead_10 rfl (lv_at hl 0 rfl) ?_
      refine gf_300 (pc := 11) C hP h0 dX8_countRowsToRead_11 ?_
      refine lv_iload_n (pc := 14) hx hb dX8_countRowsToRead_14 rfl (lv_at hl 3 rfl) ?_
      refine r_ialdK (pc := 15) (n := 6) (k := x3.toNatClampNeg) C hP (cl_0_6 hC h0) (fun _ _ _ _ => rfl) hw.1 rfl dX8_countRowsToRead_15 ?_
      replace hw := hw.2
      refine r_cSI (pc := 16) (rest := []) (As := [.int (M.1 (25, 0, 0, 0) x3.toNatClampNeg)]) C hl.1 hP hS (k_X8_rulingOf l G hC  hw) mw_614 mw_615 mw_56 mw_616 ⟨rfl, rfl⟩ hd_X8_rulingOf rfl rfl ⟨Nat.le_of_ble_eq_true rfl, Nat.le_of_ble_eq_true rfl⟩ (Nat.le_of_ble_eq_true rfl) ⟨Nat.zero_le _, Nat.zero_le _⟩ dX8_countRowsToRead_16 (fun r16 M16 H locs hw hP hS => ?_)
      refine lv_istore (pc := 19) (lv' := [(4, .int r16), (0, .ref (ad (0, 0, 0, 0))), (1, .int a1), (2, .int x2), (3, .int x3)]) hx hb dX8_countRowsToRead_19 hl (by decide) rfl (fun ls hl => ?_)
      refine lv_iload (pc := 21) hx hb dX8_countRowsToRead_21 (lv_at hl 0 rfl) ?_
      refine lv_iconst (pc := 23) (v := (2 : Int32)) hx hb dX8_countRowsToRead_23 (by decide) ?_
      refine lv_icmp_eq (pc := 24) (tgt := 49) hx hb dX8_countRowsToRead_24 (by decide) (fun h => ?_) (fun h => ?_)
      · replace hw := if_t h hw
        refine lv_iload_n (pc := 49) hx hb dX8_countRowsToRead_49 rfl (lv_at hl 3 rfl) ?_
        refine lv_aload_n (pc := 50) hx hb dX8_countRowsToRead_50 rfl (lv_at hl 1 rfl) ?_
        refine gf_294 (pc := 51) C hP h0 dX8_countRowsToRead_51 ?_
        refine gf_156 (pc := 54) C hP (cl_0_0 hC h0) dX8_countRowsToRead_54 ?_
        refine lv_iload_n (pc := 57) hx hb dX8_countRowsToRead_57 rfl (lv_at hl 4 rfl) ?_
        refine r_aald2 (pc := 58) C hP (cl_1_0 hC (cl_0_0 hC h0)) hw.1 dX8_countRowsToRead_58 ?_
        have hi58 := in_lt hw.1
        replace hw := hw.2
        refine gf_139 (pc := 59) C hP (cl_2_e hC (cl_1_0 hC (cl_0_0 hC h0)) hi58) dX8_countRowsToRead_59 ?_
        refine lv_iadd (pc := 62) hx hb dX8_countRowsToRead_62 ?_
        refine lv_topi (fun x2_63 ex2_63 => ?_)
        replace hw := hw x2_63 ex2_63
        refine lv_istore_n (pc := 63) (lv' := [(2, .int x2_63), (4, .int r16), (0, .ref (ad (0, 0, 0, 0))), (1, .int a1), (3, .int x3)]) hx hb dX8_countRowsToRead_63 rfl hl (by decide) rfl (fun ls hl => ?_)
        refine lv_iinc (pc := 64) (v := x3 + 1) (lv' := [(3, .int (x3 + 1)), (2, .int x2_63), (4, .int r16), (0, .ref (ad (0, 0, 0, 0))), (1, .int a1)]) hx hb dX8_countRowsToRead_64 hl (k := 4) rfl rfl (by decide) rfl (fun ls hl => ?_)
        refine lv_goto (pc := 67) (tgt := 4) hx hb dX8_countRowsToRead_67 (by decide) ?_
        exact ih x2_63 (x3 + 1) M16 _ _ _ hw hP hS (lv_sub hl [3, 4, 1, 0] rfl)
      · replace hw := if_f h hw
        refine lv_iload (pc := 27) hx hb dX8_countRowsToRead_27 (lv_at hl 0 rfl) ?_
        refine lv_iconst (pc := 29) (v := (1 : Int32)) hx hb dX8_countRowsToRead_29 (by decide) ?_
        refine lv_icmp_ne (pc := 30) (tgt := 64) hx hb dX8_countRowsToRead_30 (by decide) (fun h => ?_) (fun h => ?_)
        · replace hw := if_f h hw
          refine lv_iinc (pc := 64) (v := x3 + 1) (lv' := [(3, .int (x3 + 1)), (4, .int r16), (0, .ref (ad (0, 0, 0, 0))), (1, .int a1), (2, .int x2)]) hx hb dX8_countRowsToRead_64 hl (k := 4) rfl rfl (by decide) rfl (fun ls hl => ?_)
          refine lv_goto (pc := 67) (tgt := 4) hx hb dX8_countRowsToRead_67 (by decide) ?_
          exact ih x2 (x3 + 1) M16 _ _ _ hw hP hS (lv_sub hl [2, 3, 4, 0] rfl)
        · replace hw := if_t h hw
          refine lv_aload_n (pc := 33) hx hb dX8_countRowsToRead_33 rfl (lv_at hl 1 rfl) ?_
          refine gf_294 (pc := 34) C hP h0 dX8_countRowsToRead_34 ?_
          refine gf_156 (pc := 37) C hP (cl_0_0 hC h0) dX8_countRowsToRead_37 ?_
          refine lv_iload_n (pc := 40) hx hb dX8_countRowsToRead_40 rfl (lv_at hl 4 rfl) ?_
          refine r_aald2 (pc := 41) C hP (cl_1_0 hC (cl_0_0 hC h0)) hw.1 dX8_countRowsToRead_41 ?_
          have hi41 := in_lt hw.1
          replace hw := hw.2
          refine lv_iload_n (pc := 42) hx hb dX8_countRowsToRead_42 rfl (lv_at hl 2 rfl) ?_
          refine r_cVI (pc := 43) (rest := []) (As := [.int a1]) C hl.1 hP hS (k_X0_isStale l G hC (cl_2_e hC (cl_1_0 hC (cl_0_0 hC h0)) hi41) hw) (cl_2_e hC (cl_1_0 hC (cl_0_0 hC h0)) hi41) rfl rfl mw_412 mw_382 mw_383 mw_58 mw_384 ⟨rfl, rfl⟩ hd_X0_isStale rfl rfl ⟨Nat.le_of_ble_eq_true rfl, Nat.le_of_ble_eq_true rfl⟩ (Nat.le_of_ble_eq_true rfl) ⟨Nat.zero_le _, Nat.zero_le _⟩ dX8_countRowsToRead_43 (fun r43 M43 H locs hw hP hS => ?_)
          refine lv_if_eq (pc := 46) (tgt := 64) hx hb dX8_countRowsToRead_46 (by decide) (fun h => ?_) (fun h => ?_)
          · replace hw := if_t h hw
            refine lv_iinc (pc := 64) (v := x3 + 1) (lv' := [(3, .int (x3 + 1)), (4, .int r16), (0, .ref (ad (0, 0, 0, 0))), (1, .int a1), (2, .int x2)]) hx hb dX8_countRowsToRead_64 hl (k := 4) rfl rfl (by decide) rfl (fun ls hl => ?_)
            refine lv_goto (pc := 67) (tgt := 4) hx hb dX8_countRowsToRead_67 (by decide) ?_
            exact ih x2 (x3 + 1) M43 _ _ _ hw hP hS (lv_sub hl [2, 3, 4, 0] rfl)
          · replace hw := if_f h hw
            refine lv_iload_n (pc := 49) hx hb dX8_countRowsToRead_49 rfl (lv_at hl 3 rfl) ?_
            refine lv_aload_n (pc := 50) hx hb dX8_countRowsToRead_50 rfl (lv_at hl 1 rfl) ?_
            refine gf_294 (pc := 51) C hP h0 dX8_countRowsToRead_51 ?_
            refine gf_156 (pc := 54) C hP (cl_0_0 hC h0) dX8_countRowsToRead_54 ?_
            refine lv_iload_n (pc := 57) hx hb dX8_countRowsToRead_57 rfl (lv_at hl 4 rfl) ?_
            refine r_aald2 (pc := 58) C hP (cl_1_0 hC (cl_0_0 hC h0)) hw.1 dX8_countRowsToRead_58 ?_
            have hi58 := in_lt hw.1
            replace hw := hw.2
            refine gf_139 (pc := 59) C hP (cl_2_e hC (cl_1_0 hC (cl_0_0 hC h0)) hi58) dX8_countRowsToRead_59 ?_
            refine lv_iadd (pc := 62) hx hb dX8_countRowsToRead_62 ?_
            refine lv_topi (fun x2_63 ex2_63 => ?_)
            replace hw := hw x2_63 ex2_63
            refine lv_istore_n (pc := 63) (lv' := [(2, .int x2_63), (4, .int r16), (0, .ref (ad (0, 0, 0, 0))), (1, .int a1), (3, .int x3)]) hx hb dX8_countRowsToRead_63 rfl hl (by decide) rfl (fun ls hl => ?_)
            refine lv_iinc (pc := 64) (v := x3 + 1) (lv' := [(3, .int (x3 + 1)), (2, .int x2_63), (4, .int r16), (0, .ref (ad (0, 0, 0, 0))), (1, .int a1)]) hx hb dX8_countRowsToRead_64 hl (k := 4) rfl rfl (by decide) rfl (fun ls hl => ?_)
            refine lv_goto (pc := 67) (tgt := 4) hx hb dX8_countRowsToRead_67 (by decide) ?_
            exact ih x2_63 (x3 + 1) M43 _ _ _ hw hP hS (lv_sub hl [3, 4, 1, 0] rfl)
set_option maxHeartbeats 4000000 in
set_option maxRecDepth 100000 in
theorem j_X8_countRowsToRead_0 {a1 : Int32} (C : cx p s m args meth c cX8_countRowsToRead 5 (some .int) RX8 G) (hC : clo I) (h0 : I (0, 0, 0, 0)) {Q : Int32 → Mem → Prop} : ∀ (M : Mem) (H : Heap) (locs : List Loc) (ls : Array Slot), w_X8_countRowsToRead a1 Q M → wd G I ad M H → va_S (fA I ad) s.heap H locs → lv_has ls 5 [(0, .ref (ad (0, 0, 0, 0))), (1, .int a1)] → W p l e rm_X8_countRowsToRead s m args below meth c H locs 0 0 (MQ below (qI G I ad Q) args s 0 0 (fA I ad)) (F0 m 0 ls []) := by
  have hx := C.1
  have hb := C.2.1
  have hown := C.2.2.2.1
  have hts := C.2.2.2.2.1
  intro M H locs ls hw hP hS hl
  unfold w_X8_countRowsToRead at hw
  refine lv_iconst (pc := 0) (v := (0 : Int32)) hx hb dX8_countRowsToRead_0 (by decide) ?_
  refine lv_istore_n (pc := 1) (lv' := [(2, .int (0 : Int32)), (0, .ref (ad (0, 0, 0, 0))), (1, .int a1)]) hx hb dX8_countRowsToRead_1 rfl hl (by decide) rfl (fun ls hl => ?_)
  refine lv_iconst (pc := 2) (v := (0 : Int32)) hx hb dX8_countRowsToRead_2 (by decide) ?_
  refine lv_istore_n (pc := 3) (lv' := [(3, .int (0 : Int32)), (2, .int (0 : Int32)), (0, .ref (ad (0, 0, 0, 0))), (1, .int a1)]) hx hb dX8_countRowsToRead_3 rfl hl (by decide) rfl (fun ls hl => ?_)
  obtain ⟨n0, hw⟩ := hw
  exact j_X8_countRowsToRead_4 C hC h0 n0 (0 : Int32) (0 : Int32) M _ _ _ hw hP hS (lv_sub hl [2, 3, 1, 0] rfl)
end
theorem k_X8_countRowsToRead (l : Launch) (G : GG) {I : ix → Prop} {ad : ix → Nat} (hC : clo I) {a1 : Int32} (h0 : I (0, 0, 0, 0)) {Q : Int32 → Mem → Prop} {M : Mem} (hw : w_X8_countRowsToRead a1 Q M) : Met l yX8_countRowsToRead (wW yX8_countRowsToRead cX8_countRowsToRead 5 (some .int)) rm_X8_countRowsToRead (va_Pc [.ref (ad (0, 0, 0, 0)), .int a1] (fun U => wd G I ad M U.heap ∧ wK G U)) (qI G I ad Q) 0 0 (fA I ad) := met_of (by decide +kernel) (Nat.le_of_ble_eq_true rfl) (fun p e s m below meth c C hP hS ls hl => j_X8_countRowsToRead_0 C hC h0 _ _ _ _ hw hP hS hl)
section
variable {p : Program} {l : Launch} {e : Env} {s : State} {m : MethodId} {args : Array Value} {below : List Frame} {meth : Method} {c : Code} 
variable  {G : GG} {I : ix → Prop} {ad : ix → Nat}
set_option maxHeartbeats 4000000 in
set_option maxRecDepth 100000 in
theorem j_X8_total_0 {a1 : Int32} {a2 : Int32} (C : cx p s m args meth c cX8_total 3 (some .int) RX8 G) (hC : clo I) (h0 : I (0, 0, 0, 0)) {Q : Int32 → Mem → Prop} : ∀ (M : Mem) (H : Heap) (locs : List Loc) (ls : Array Slot), w_X8_total a1 a2 Q M → wd G I ad M H → va_S (fA I ad) s.heap H locs → lv_has ls 3 [(0, .ref (ad (0, 0, 0, 0))), (1, .int a1), (2, .int a2)] → W p l e rm_X8_total s m args below meth c H locs 0 0 (MQ below (qI G I ad Q) args s 0 0 (fA I ad)) (F0 m 0 ls []) := by
  have hx := C.1
  have hb := C.2.1
  have hown := C.2.2.2.1
  have hts := C.2.2.2.2.1
  intro M H locs ls hw hP hS hl
  unfold w_X8_total at hw
  refine lv_iload_n (pc := 0) hx hb dX8_total_0 rfl (lv_at hl 1 rfl) ?_
  refine r_cSI (pc := 1) (rest := []) (As := [.int a1]) C hl.1 hP hS (k_X8_isColumn l G hC  hw) mw_403 mw_404 mw_56 mw_405 ⟨rfl, rfl⟩ hd_X8_isColumn rfl rfl ⟨Nat.le_of_ble_eq_true rfl, Nat.le_of_ble_eq_true rfl⟩ (Nat.le_of_ble_eq_true rfl) ⟨Nat.zero_le _, Nat.zero_le _⟩ dX8_total_1 (fun r1 M1 H locs hw hP hS => ?_)
  refine lv_if_ne (pc := 4) (tgt := 10) hx hb dX8_total_4 (by decide) (fun h => ?_) (fun h => ?_)
  · replace hw := if_f h hw
    refine lv_iload_n (pc := 10) hx hb dX8_total_10 rfl (lv_at hl 2 rfl) ?_
    refine lv_if_lt (pc := 11) (tgt := 19) hx hb dX8_total_11 (by decide) (fun h => ?_) (fun h => ?_)
    · replace hw := if_t h hw
      refine lv_ldc (pc := 19) (own := RX8) (v := (-3000002 : Int32)) hx hb hown (hts _ mw_413) dX8_total_19 ?_
      exact r_iret (pc := 21) C hP hS hw dX8_total_21
    · replace hw := if_f h hw
      refine lv_iload_n (pc := 14) hx hb dX8_total_14 rfl (lv_at hl 2 rfl) ?_
      refine lv_iconst (pc := 15) (v := (4 : Int32)) hx hb dX8_total_15 (by decide) ?_
      refine lv_icmp_le (pc := 16) (tgt := 22) hx hb dX8_total_16 (by decide) (fun h => ?_) (fun h => ?_)
      · replace hw := if_t h hw
        refine lv_aload_n (pc := 22) hx hb dX8_total_22 rfl (lv_at hl 0 rfl) ?_
        refine gf_296 (pc := 23) C hP h0 dX8_total_23 ?_
        refine r_cVI (pc := 26) (rest := []) (As := []) C hl.1 hP hS (k_X1_isFaulty l G hC (cl_0_2 hC h0) hw) (cl_0_2 hC h0) rfl rfl mw_486 mw_445 mw_446 mw_60 mw_447 ⟨rfl, rfl⟩ hd_X1_isFaulty rfl rfl ⟨Nat.le_of_ble_eq_true rfl, Nat.le_of_ble_eq_true rfl⟩ (Nat.le_of_ble_eq_true rfl) ⟨Nat.zero_le _, Nat.zero_le _⟩ dX8_total_26 (fun r26 M26 H locs hw hP hS => ?_)
        refine lv_if_eq (pc := 29) (tgt := 35) hx hb dX8_total_29 (by decide) (fun h => ?_) (fun h => ?_)
        · replace hw := if_t h hw
          refine lv_iload_n (pc := 35) hx hb dX8_total_35 rfl (lv_at hl 2 rfl) ?_
          refine lv_iconst (pc := 36) (v := (4 : Int32)) hx hb dX8_total_36 (by decide) ?_
          refine lv_icmp_ne (pc := 37) (tgt := 50) hx hb dX8_total_37 (by decide) (fun h => ?_) (fun h => ?_)
          · replace hw := if_f h hw
            refine lv_aload_n (pc := 50) hx hb dX8_total_50 rfl (lv_at hl 0 rfl) ?_
            refine lv_iload_n (pc := 51) hx hb dX8_total_51 rfl (lv_at hl 1 rfl) ?_
            refine r_cVV (pc := 52) (rest := []) (As := [.int a1]) C hl.1 hP hS (k_X8_tallyMatches l G hC h0 hw) h0 rfl rfl mw_663 mw_665 mw_32 mw_56 mw_666 ⟨rfl, rfl⟩ hd_X8_tallyMatches rfl rfl ⟨Nat.le_of_ble_eq_true rfl, Nat.le_of_ble_eq_true rfl⟩ (Nat.le_of_ble_eq_true rfl) ⟨Nat.zero_le _, Nat.zero_le _⟩ dX8_total_52 (fun M52 H locs hw hP hS => ?_)
            refine lv_iload_n (pc := 55) hx hb dX8_total_55 rfl (lv_at hl 2 rfl) ?_
            by_cases hk0 : a2 = (0 : Int32)
            · replace hw := if_t hk0 hw
              refine lv_tableIn (pc := 56) (tgt := 84) (off := 28) hx hb dX8_total_56 (by rw [hk0]; decide) (by rw [hk0]; decide) (by rw [hk0]; rfl) (by decide) ?_
              refine lv_aload_n (pc := 84) hx hb dX8_total_84 rfl (lv_at hl 0 rfl) ?_
              refine gf_302 (pc := 85) C hP h0 dX8_total_85 ?_
              refine gf_278 (pc := 88) C hP (cl_0_8 hC h0) dX8_total_88 ?_
              exact r_iret (pc := 91) C hP hS hw dX8_total_91
            · replace hw := if_f hk0 hw
              by_cases hk1 : a2 = (1 : Int32)
              · replace hw := if_t hk1 hw
                refine lv_tableIn (pc := 56) (tgt := 92) (off := 36) hx hb dX8_total_56 (by rw [hk1]; decide) (by rw [hk1]; decide) (by rw [hk1]; rfl) (by decide) ?_
                refine lv_aload_n (pc := 92) hx hb dX8_total_92 rfl (lv_at hl 0 rfl) ?_
                refine gf_302 (pc := 93) C hP h0 dX8_total_93 ?_
                refine gf_280 (pc := 96) C hP (cl_0_8 hC h0) dX8_total_96 ?_
                exact r_iret (pc := 99) C hP hS hw dX8_total_99
              · replace hw := if_f hk1 hw
                by_cases hk2 : a2 = (2 : Int32)
                · replace hw := if_t hk2 hw
                  refine lv_tableIn (pc := 56) (tgt := 100) (off := 44) hx hb dX8_total_56 (by rw [hk2]; decide) (by rw [hk2]; decide) (by rw [hk2]; rfl) (by decide) ?_
                  refine lv_aload_n (pc := 100) hx hb dX8_total_100 rfl (lv_at hl 0 rfl) ?_
                  refine gf_302 (pc := 101) C hP h0 dX8_total_101 ?_
                  refine gf_282 (pc := 104) C hP (cl_0_8 hC h0) dX8_total_104 ?_
                  exact r_iret (pc := 107) C hP hS hw dX8_total_107
                · replace hw := if_f hk2 hw
                  refine lv_tableOut (pc := 56) (tgt := 108) hx hb dX8_total_56 (by have q0 := lv_neT (a := 0) hk0 rfl; have q1 := lv_neT (a := 1) hk1 rfl; have q2 := lv_neT (a := 2) hk2 rfl; omega) (by decide) ?_
                  refine lv_aload_n (pc := 108) hx hb dX8_total_108 rfl (lv_at hl 0 rfl) ?_
                  refine gf_302 (pc := 109) C hP h0 dX8_total_109 ?_
                  refine gf_284 (pc := 112) C hP (cl_0_8 hC h0) dX8_total_112 ?_
                  exact r_iret (pc := 115) C hP hS hw dX8_total_115
          · replace hw := if_t h hw
            refine lv_aload_n (pc := 40) hx hb dX8_total_40 rfl (lv_at hl 0 rfl) ?_
            refine r_cVV (pc := 41) (rest := []) (As := []) C hl.1 hP hS (k_X8_weighBlocks l G hC h0 hw) h0 rfl rfl mw_643 mw_645 mw_28 mw_56 mw_646 ⟨rfl, rfl⟩ hd_X8_weighBlocks rfl rfl ⟨Nat.le_of_ble_eq_true rfl, Nat.le_of_ble_eq_true rfl⟩ (Nat.le_of_ble_eq_true rfl) ⟨Nat.zero_le _, Nat.zero_le _⟩ dX8_total_41 (fun M41 H locs hw hP hS => ?_)
            refine lv_aload_n (pc := 44) hx hb dX8_total_44 rfl (lv_at hl 0 rfl) ?_
            refine lv_iload_n (pc := 45) hx hb dX8_total_45 rfl (lv_at hl 1 rfl) ?_
            refine r_cVI (pc := 46) (rest := []) (As := [.int a1]) C hl.1 hP hS (k_X8_countRowsToRead l G hC h0 hw) h0 rfl rfl mw_659 mw_661 mw_31 mw_56 mw_662 ⟨rfl, rfl⟩ hd_X8_countRowsToRead rfl rfl ⟨Nat.le_of_ble_eq_true rfl, Nat.le_of_ble_eq_true rfl⟩ (Nat.le_of_ble_eq_true rfl) ⟨Nat.zero_le _, Nat.zero_le _⟩ dX8_total_46 (fun r46 M46 H locs hw hP hS => ?_)
            exact r_iret (pc := 49) C hP hS hw dX8_total_49
        · replace hw := if_f h hw
          refine lv_ldc (pc := 32) (own := RX8) (v := (-3000005 : Int32)) hx hb hown (hts _ mw_527) dX8_total_32 ?_
          exact r_iret (pc := 34) C hP hS hw dX8_total_34
      · replace hw := if_f h hw
        refine lv_ldc (pc := 19) (own := RX8) (v := (-3000002 : Int32)) hx hb hown (hts _ mw_413) dX8_total_19 ?_
        exact r_iret (pc := 21) C hP hS hw dX8_total_21
  · replace hw := if_t h hw
    refine lv_ldc (pc := 7) (own := RX8) (v := (-3000001 : Int32)) hx hb hown (hts _ mw_406) dX8_total_7 ?_
    exact r_iret (pc := 9) C hP hS hw dX8_total_9
end
theorem k_X8_total (l : Launch) (G : GG) {I : ix → Prop} {ad : ix → Nat} (hC : clo I) {a1 : Int32} {a2 : Int32} (h0 : I (0, 0, 0, 0)) {Q : Int32 → Mem → Prop} {M : Mem} (hw : w_X8_total a1 a2 Q M) : Met l yX8_total (wW yX8_total cX8_total 3 (some .int)) rm_X8_total (va_Pc [.ref (ad (0, 0, 0, 0)), .int a1, .int a2] (fun U => wd G I ad M U.heap ∧ wK G U)) (qI G I ad Q) 0 0 (fA I ad) := met_of (by decide +kernel) (Nat.le_of_ble_eq_true rfl) (fun p e s m below meth c C hP hS ls hl => j_X8_total_0 C hC h0 _ _ _ _ hw hP hS hl)
section
variable {p : Program} {l : Launch} {e : Env} {s : State} {m : MethodId} {args : Array Value} {below : List Frame} {meth : Method} {c : Code} 
variable  {G : GG} {I : ix → Prop} {ad : ix → Nat}
set_option maxHeartbeats 4000000 in
set_option maxRecDepth 100000 in
theorem j_X8_countUnlike_9 {s1 : Nat} {b1 : Nat} (C : cx p s m args meth c cX8_countUnlike 3 (some .int) RX8 G) (hC : clo I) (h0 : I (0, 0, 0, 0)) (h1 : I (3, s1, b1, 0)) {Q : Int32 → Mem → Prop} : ∀ (n : Nat), ∀ (x2 : Int32) (M : Mem) (H : Heap) (locs : List Loc) (ls : Array Slot), w_X8_countUnlike_9 s1 b1 Q n x2 M → wd G I ad M H → va_S (fA I ad) s.heap H locs → lv_has ls 3 [(0, .ref (ad (0, 0, 0, 0))), (1, .ref (ad (3, s1, b1, 0))), (2, .int x2)] → W p l e rm_X8_countUnlike s m args below meth c H locs 0 0 (MQ below (qI G I ad Q) args s 0 0 (fA I ad)) (F0 m 9 ls []) := by
  have hx := C.1
  have hb := C.2.1
  have hown := C.2.2.2.1
  have hts := C.2.2.2.2.1
  intro n
  induction n with
  | zero =>
    intro x2 M H locs ls hw hP hS hl
    rw [w_X8_countUnlike_9] at hw
    exact hw.elim
  | succ n ih =>
    intro x2 M H locs ls hw hP hS hl
    rw [w_X8_countUnlike_9] at hw
    refine lv_iload_n (pc := 9) hx hb dX8_countUnlike_9 rfl (lv_at hl 2 rfl) ?_
    refine lv_aload_n (pc := 10) hx hb dX8_countUnlike_10 rfl (lv_at hl 1 rfl) ?_
    refine gf_139 (pc := 11) C hP h1 dX8_countUnlike_11 ?_
    refine lv_icmp_ge (pc := 14) (tgt := 36) hx hb dX8_countUnlike_14 (by decide) (fun h => ?_) (fun h => ?_)
    · replace hw := if_t h hw
      refine lv_aload_n (pc := 36) hx hb dX8_countUnlike_36 rfl (lv_at hl 0 rfl) ?_
      refine gf_301 (pc := 37) C hP h0 dX8_countUnlike_37 ?_
      refine gf_258 (pc := 40) C hP (cl_0_7 hC h0) dX8_countUnlike_40 ?_
      exact r_iret (pc := 43) C hP hS hw dX8_countUnlike_43
    · replace hw := if_f h hw
      refine lv_aload_n (pc := 17) hx hb dX8_countUnlike_17 rfl (lv_at hl 0 rfl) ?_
      refine gf_301 (pc := 18) C hP h0 dX8_countUnlike_18 ?_
      refine lv_aload_n (pc := 21) hx hb dX8_countUnlike_21 rfl (lv_at hl 1 rfl) ?_
      refine gf_141 (pc := 22) C hP h1 dX8_countUnlike_22 ?_
      refine lv_iload_n (pc := 25) hx hb dX8_countUnlike_25 rfl (lv_at hl 2 rfl) ?_
      refine r_aald4 (pc := 26) C hP (cl_3_1 hC h1) hw.1 dX8_countUnlike_26 ?_
      have hi26 := in_lt hw.1
      replace hw := hw.2
      refine r_cVV (pc := 27) (rest := []) (As := [.ref (ad (5, s1, b1, x2.toNatClampNeg))]) C hl.1 hP hS (k_X4_note l G hC (cl_0_7 hC h0) (cl_4_e hC (cl_3_1 hC h1) hi26) (fun _ _ _ _ => rfl) hw) (cl_0_7 hC h0) rfl rfl mw_637 mw_638 mw_639 mw_63 mw_640 ⟨rfl, rfl⟩ hd_X4_note rfl rfl ⟨Nat.le_of_ble_eq_true rfl, Nat.le_of_ble_eq_true rfl⟩ (Nat.le_of_ble_eq_true rfl) ⟨Nat.zero_le _, Nat.zero_le _⟩ dX8_countUnlike_27 (fun M27 H locs hw hP hS => ?_)
      refine lv_iinc (pc := 30) (v := x2 + 1) (lv' := [(2, .int (x2 + 1)), (0, .ref (ad (0, 0, 0, 0))), (1, .ref (ad (3, s1, b1, 0)))]) hx hb dX8_countUnlike_30 hl (k := 2) rfl rfl (by decide) rfl (fun ls hl => ?_)
      refine lv_goto (pc := 33) (tgt := 9) hx hb dX8_countUnlike_33 (by decide) ?_
      exact ih (x2 + 1) M27 _ _ _ hw hP hS (lv_sub hl [1, 2, 0] rfl)
set_option maxHeartbeats 4000000 in
set_option maxRecDepth 100000 in
theorem j_X8_countUnlike_0 {s1 : Nat} {b1 : Nat} (C : cx p s m args meth c cX8_countUnlike 3 (some .int) RX8 G) (hC : clo I) (h0 : I (0, 0, 0, 0)) (h1 : I (3, s1, b1, 0)) {Q : Int32 → Mem → Prop} : ∀ (M : Mem) (H : Heap) (locs : List Loc) (ls : Array Slot), w_X8_countUnlike s1 b1 Q M → wd G I ad M H → va_S (fA I ad) s.heap H locs → lv_has ls 3 [(0, .ref (ad (0, 0, 0, 0))), (1, .ref (ad (3, s1, b1, 0)))] → W p l e rm_X8_countUnlike s m args below meth c H locs 0 0 (MQ below (qI G I ad Q) args s 0 0 (fA I ad)) (F0 m 0 ls []) := by
  have hx := C.1
  have hb := C.2.1
  have hown := C.2.2.2.1
  have hts := C.2.2.2.2.1
  intro M H locs ls hw hP hS hl
  unfold w_X8_countUnlike at hw
  refine lv_aload_n (pc := 0) hx hb dX8_countUnlike_0 rfl (lv_at hl 0 rfl) ?_
  refine gf_301 (pc := 1) C hP h0 dX8_countUnlike_1 ?_
  refine r_cVV (pc := 4) (rest := []) (As := []) C hl.1 hP hS (k_X4_clear l G hC (cl_0_7 hC h0) hw) (cl_0_7 hC h0) rfl rfl mw_633 mw_634 mw_635 mw_63 mw_636 ⟨rfl, rfl⟩ hd_X4_clear rfl rfl ⟨Nat.le_of_ble_eq_true rfl, Nat.le_of_ble_eq_true rfl⟩ (Nat.le_of_ble_eq_true rfl) ⟨Nat.zero_le _, Nat.zero_le _⟩ dX8_countUnlike_4 (fun M4 H locs hw hP hS => ?_)
  refine lv_iconst (pc := 7) (v := (0 : Int32)) hx hb dX8_countUnlike_7 (by decide) ?_
  refine lv_istore_n (pc := 8) (lv' := [(2, .int (0 : Int32)), (0, .ref (ad (0, 0, 0, 0))), (1, .ref (ad (3, s1, b1, 0)))]) hx hb dX8_countUnlike_8 rfl hl (by decide) rfl (fun ls hl => ?_)
  obtain ⟨n0, hw⟩ := hw
  exact j_X8_countUnlike_9 C hC h0 h1 n0 (0 : Int32) M4 _ _ _ hw hP hS (lv_sub hl [1, 2, 0] rfl)
end
theorem k_X8_countUnlike (l : Launch) (G : GG) {I : ix → Prop} {ad : ix → Nat} (hC : clo I) {s1 : Nat} {b1 : Nat} (h0 : I (0, 0, 0, 0)) (h1 : I (3, s1, b1, 0)) {Q : Int32 → Mem → Prop} {M : Mem} (hw : w_X8_countUnlike s1 b1 Q M) : Met l yX8_countUnlike (wW yX8_countUnlike cX8_countUnlike 3 (some .int)) rm_X8_countUnlike (va_Pc [.ref (ad (0, 0, 0, 0)), .ref (ad (3, s1, b1, 0))] (fun U => wd G I ad M U.heap ∧ wK G U)) (qI G I ad Q) 0 0 (fA I ad) := met_of (by decide +kernel) (Nat.le_of_ble_eq_true rfl) (fun p e s m below meth c C hP hS ls hl => j_X8_countUnlike_0 C hC h0 h1 _ _ _ _ hw hP hS hl)
section
variable {p : Program} {l : Launch} {e : Env} {s : State} {m : MethodId} {args : Array Value} {below : List Frame} {meth : Method} {c : Code} 
variable  {G : GG} {I : ix → Prop} {ad : ix → Nat}
set_option maxHeartbeats 4000000 in
set_option maxRecDepth 100000 in
theorem j_X8_told_0 {a1 : Int32} (C : cx p s m args meth c cX8_told 2 (some .int) RX8 G) (hC : clo I) (h0 : I (0, 0, 0, 0)) {Q : Int32 → Mem → Prop} : ∀ (M : Mem) (H : Heap) (locs : List Loc) (ls : Array Slot), w_X8_told a1 Q M → wd G I ad M H → va_S (fA I ad) s.heap H locs → lv_has ls 2 [(0, .ref (ad (0, 0, 0, 0))), (1, .int a1)] → W p l e rm_X8_told s m args below meth c H locs 0 0 (MQ below (qI G I ad Q) args s 0 0 (fA I ad)) (F0 m 0 ls []) := by
  have hx := C.1
  have hb := C.2.1
  have hown := C.2.2.2.1
  have hts := C.2.2.2.2.1
  intro M H locs ls hw hP hS hl
  unfold w_X8_told at hw
  refine lv_iload_n (pc := 0) hx hb dX8_told_0 rfl (lv_at hl 1 rfl) ?_
  refine lv_if_ne (pc := 1) (tgt := 12) hx hb dX8_told_1 (by decide) (fun h => ?_) (fun h => ?_)
  · replace hw := if_f h hw
    refine lv_iload_n (pc := 12) hx hb dX8_told_12 rfl (lv_at hl 1 rfl) ?_
    refine lv_iconst (pc := 13) (v := (1 : Int32)) hx hb dX8_told_13 (by decide) ?_
    refine lv_icmp_ne (pc := 14) (tgt := 25) hx hb dX8_told_14 (by decide) (fun h => ?_) (fun h => ?_)
    · replace hw := if_f h hw
      refine lv_iload_n (pc := 25) hx hb dX8_told_25 rfl (lv_at hl 1 rfl) ?_
      refine lv_bipush (pc := 26) (v := (10 : Int32)) hx hb dX8_told_26 (by decide) ?_
      refine lv_icmp_lt (pc := 28) (tgt := 57) hx hb dX8_told_28 (by decide) (fun h => ?_) (fun h => ?_)
      · replace hw := if_t h hw
        refine lv_iload_n (pc := 57) hx hb dX8_told_57 rfl (lv_at hl 1 rfl) ?_
        refine lv_bipush (pc := 58) (v := (20 : Int32)) hx hb dX8_told_58 (by decide) ?_
        refine lv_icmp_lt (pc := 60) (tgt := 90) hx hb dX8_told_60 (by decide) (fun h => ?_) (fun h => ?_)
        · replace hw := if_t h hw
          refine lv_bipush (pc := 90) (v := (-2 : Int32)) hx hb dX8_told_90 (by decide) ?_
          exact r_iret (pc := 92) C hP hS hw dX8_told_92
        · replace hw := if_f h hw
          refine lv_iload_n (pc := 63) hx hb dX8_told_63 rfl (lv_at hl 1 rfl) ?_
          refine lv_bipush (pc := 64) (v := (20 : Int32)) hx hb dX8_told_64 (by decide) ?_
          refine lv_isub (pc := 66) hx hb dX8_told_66 ?_
          refine r_cSI (pc := 67) (rest := []) (As := [.int (a1 - (20 : Int32))]) C hl.1 hP hS (k_X8_isBlock l G hC  hw) mw_326 mw_327 mw_56 mw_328 ⟨rfl, rfl⟩ hd_X8_isBlock rfl rfl ⟨Nat.le_of_ble_eq_true rfl, Nat.le_of_ble_eq_true rfl⟩ (Nat.le_of_ble_eq_true rfl) ⟨Nat.zero_le _, Nat.zero_le _⟩ dX8_told_67 (fun r67 M67 H locs hw hP hS => ?_)
          refine lv_if_eq (pc := 70) (tgt := 90) hx hb dX8_told_70 (by decide) (fun h => ?_) (fun h => ?_)
          · replace hw := if_t h hw
            refine lv_bipush (pc := 90) (v := (-2 : Int32)) hx hb dX8_told_90 (by decide) ?_
            exact r_iret (pc := 92) C hP hS hw dX8_told_92
          · replace hw := if_f h hw
            refine lv_aload_n (pc := 73) hx hb dX8_told_73 rfl (lv_at hl 0 rfl) ?_
            refine lv_aload_n (pc := 74) hx hb dX8_told_74 rfl (lv_at hl 0 rfl) ?_
            refine gf_294 (pc := 75) C hP h0 dX8_told_75 ?_
            refine gf_156 (pc := 78) C hP (cl_0_0 hC h0) dX8_told_78 ?_
            refine lv_iload_n (pc := 81) hx hb dX8_told_81 rfl (lv_at hl 1 rfl) ?_
            refine lv_bipush (pc := 82) (v := (20 : Int32)) hx hb dX8_told_82 (by decide) ?_
            refine lv_isub (pc := 84) hx hb dX8_told_84 ?_
            refine r_aald2 (pc := 85) C hP (cl_1_0 hC (cl_0_0 hC h0)) hw.1 dX8_told_85 ?_
            have hi85 := in_lt hw.1
            replace hw := hw.2
            refine r_cVI (pc := 86) (rest := []) (As := [.ref (ad (3, 0, (a1 - (20 : Int32)).toNatClampNeg, 0))]) C hl.1 hP hS (k_X8_countUnlike l G hC h0 (cl_2_e hC (cl_1_0 hC (cl_0_0 hC h0)) hi85) hw) h0 rfl rfl mw_701 mw_703 mw_33 mw_56 mw_704 ⟨rfl, rfl⟩ hd_X8_countUnlike rfl rfl ⟨Nat.le_of_ble_eq_true rfl, Nat.le_of_ble_eq_true rfl⟩ (Nat.le_of_ble_eq_true rfl) ⟨Nat.zero_le _, Nat.zero_le _⟩ dX8_told_86 (fun r86 M86 H locs hw hP hS => ?_)
            exact r_iret (pc := 89) C hP hS hw dX8_told_89
      · replace hw := if_f h hw
        refine lv_iload_n (pc := 31) hx hb dX8_told_31 rfl (lv_at hl 1 rfl) ?_
        refine lv_bipush (pc := 32) (v := (10 : Int32)) hx hb dX8_told_32 (by decide) ?_
        refine lv_isub (pc := 34) hx hb dX8_told_34 ?_
        refine r_cSI (pc := 35) (rest := []) (As := [.int (a1 - (10 : Int32))]) C hl.1 hP hS (k_X8_isBlock l G hC  hw) mw_326 mw_327 mw_56 mw_328 ⟨rfl, rfl⟩ hd_X8_isBlock rfl rfl ⟨Nat.le_of_ble_eq_true rfl, Nat.le_of_ble_eq_true rfl⟩ (Nat.le_of_ble_eq_true rfl) ⟨Nat.zero_le _, Nat.zero_le _⟩ dX8_told_35 (fun r35 M35 H locs hw hP hS => ?_)
        refine lv_if_eq (pc := 38) (tgt := 57) hx hb dX8_told_38 (by decide) (fun h => ?_) (fun h => ?_)
        · replace hw := if_t h hw
          refine lv_iload_n (pc := 57) hx hb dX8_told_57 rfl (lv_at hl 1 rfl) ?_
          refine lv_bipush (pc := 58) (v := (20 : Int32)) hx hb dX8_told_58 (by decide) ?_
          refine lv_icmp_lt (pc := 60) (tgt := 90) hx hb dX8_told_60 (by decide) (fun h => ?_) (fun h => ?_)
          · replace hw := if_t h hw
            refine lv_bipush (pc := 90) (v := (-2 : Int32)) hx hb dX8_told_90 (by decide) ?_
            exact r_iret (pc := 92) C hP hS hw dX8_told_92
          · replace hw := if_f h hw
            refine lv_iload_n (pc := 63) hx hb dX8_told_63 rfl (lv_at hl 1 rfl) ?_
            refine lv_bipush (pc := 64) (v := (20 : Int32)) hx hb dX8_told_64 (by decide) ?_
            refine lv_isub (pc := 66) hx hb dX8_told_66 ?_
            refine r_cSI (pc := 67) (rest := []) (As := [.int (a1 - (20 : Int32))]) C hl.1 hP hS (k_X8_isBlock l G hC  hw) mw_326 mw_327 mw_56 mw_328 ⟨rfl, rfl⟩ hd_X8_isBlock rfl rfl ⟨Nat.le_of_ble_eq_true rfl, Nat.le_of_ble_eq_true rfl⟩ (Nat.le_of_ble_eq_true rfl) ⟨Nat.zero_le _, Nat.zero_le _⟩ dX8_told_67 (fun r67 M67 H locs hw hP hS => ?_)
            refine lv_if_eq (pc := 70) (tgt := 90) hx hb dX8_told_70 (by decide) (fun h => ?_) (fun h => ?_)
            · replace hw := if_t h hw
              refine lv_bipush (pc := 90) (v := (-2 : Int32)) hx hb dX8_told_90 (by decide) ?_
              exact r_iret (pc := 92) C hP hS hw dX8_told_92
            · replace hw := if_f h hw
              refine lv_aload_n (pc := 73) hx hb dX8_told_73 rfl (lv_at hl 0 rfl) ?_
              refine lv_aload_n (pc := 74) hx hb dX8_told_74 rfl (lv_at hl 0 rfl) ?_
              refine gf_294 (pc := 75) C hP h0 dX8_told_75 ?_
              refine gf_156 (pc := 78) C hP (cl_0_0 hC h0) dX8_told_78 ?_
              refine lv_iload_n (pc := 81) hx hb dX8_told_81 rfl (lv_at hl 1 rfl) ?_
              refine lv_bipush (pc := 82) (v := (20 : Int32)) hx hb dX8_told_82 (by decide) ?_
              refine lv_isub (pc := 84) hx hb dX8_told_84 ?_
              refine r_aald2 (pc := 85) C hP (cl_1_0 hC (cl_0_0 hC h0)) hw.1 dX8_told_85 ?_
              have hi85 := in_lt hw.1
              replace hw := hw.2
              refine r_cVI (pc := 86) (rest := []) (As := [.ref (ad (3, 0, (a1 - (20 : Int32)).toNatClampNeg, 0))]) C hl.1 hP hS (k_X8_countUnlike l G hC h0 (cl_2_e hC (cl_1_0 hC (cl_0_0 hC h0)) hi85) hw) h0 rfl rfl mw_701 mw_703 mw_33 mw_56 mw_704 ⟨rfl, rfl⟩ hd_X8_countUnlike rfl rfl ⟨Nat.le_of_ble_eq_true rfl, Nat.le_of_ble_eq_true rfl⟩ (Nat.le_of_ble_eq_true rfl) ⟨Nat.zero_le _, Nat.zero_le _⟩ dX8_told_86 (fun r86 M86 H locs hw hP hS => ?_)
              exact r_iret (pc := 89) C hP hS hw dX8_told_89
        · replace hw := if_f h hw
          refine lv_aload_n (pc := 41) hx hb dX8_told_41 rfl (lv_at hl 0 rfl) ?_
          refine gf_294 (pc := 42) C hP h0 dX8_told_42 ?_
          refine gf_156 (pc := 45) C hP (cl_0_0 hC h0) dX8_told_45 ?_
          refine lv_iload_n (pc := 48) hx hb dX8_told_48 rfl (lv_at hl 1 rfl) ?_
          refine lv_bipush (pc := 49) (v := (10 : Int32)) hx hb dX8_told_49 (by decide) ?_
          refine lv_isub (pc := 51) hx hb dX8_told_51 ?_
          refine r_aald2 (pc := 52) C hP (cl_1_0 hC (cl_0_0 hC h0)) hw.1 dX8_told_52 ?_
          have hi52 := in_lt hw.1
          replace hw := hw.2
          refine gf_139 (pc := 53) C hP (cl_2_e hC (cl_1_0 hC (cl_0_0 hC h0)) hi52) dX8_told_53 ?_
          exact r_iret (pc := 56) C hP hS hw dX8_told_56
    · replace hw := if_t h hw
      refine lv_aload_n (pc := 17) hx hb dX8_told_17 rfl (lv_at hl 0 rfl) ?_
      refine gf_294 (pc := 18) C hP h0 dX8_told_18 ?_
      refine r_cVI (pc := 21) (rest := []) (As := []) C hl.1 hP hS (k_X5_countRows l G hC (cl_0_0 hC h0) hw) (cl_0_0 hC h0) rfl rfl mw_697 mw_698 mw_699 mw_57 mw_700 ⟨rfl, rfl⟩ hd_X5_countRows rfl rfl ⟨Nat.le_of_ble_eq_true rfl, Nat.le_of_ble_eq_true rfl⟩ (Nat.le_of_ble_eq_true rfl) ⟨Nat.zero_le _, Nat.zero_le _⟩ dX8_told_21 (fun r21 M21 H locs hw hP hS => ?_)
      exact r_iret (pc := 24) C hP hS hw dX8_told_24
  · replace hw := if_t h hw
    refine lv_aload_n (pc := 4) hx hb dX8_told_4 rfl (lv_at hl 0 rfl) ?_
    refine gf_296 (pc := 5) C hP h0 dX8_told_5 ?_
    refine gf_179 (pc := 8) C hP (cl_0_2 hC h0) dX8_told_8 ?_
    exact r_iret (pc := 11) C hP hS hw dX8_told_11
end
theorem k_X8_told (l : Launch) (G : GG) {I : ix → Prop} {ad : ix → Nat} (hC : clo I) {a1 : Int32} (h0 : I (0, 0, 0, 0)) {Q : Int32 → Mem → Prop} {M : Mem} (hw : w_X8_told a1 Q M) : Met l yX8_told (wW yX8_told cX8_told 2 (some .int)) rm_X8_told (va_Pc [.ref (ad (0, 0, 0, 0)), .int a1] (fun U => wd G I ad M U.heap ∧ wK G U)) (qI G I ad Q) 0 0 (fA I ad) := met_of (by decide +kernel) (Nat.le_of_ble_eq_true rfl) (fun p e s m below meth c C hP hS ls hl => j_X8_told_0 C hC h0 _ _ _ _ hw hP hS hl)
section
variable {p : Program} {l : Launch} {e : Env} {s : State} {m : MethodId} {args : Array Value} {below : List Frame} {meth : Method} {c : Code} 
variable  {G : GG} {I : ix → Prop} {ad : ix → Nat}
set_option maxHeartbeats 4000000 in
set_option maxRecDepth 100000 in
theorem j_X8_isImage_0 {a0 : Int32} (C : cx p s m args meth c cX8_isImage 1 (some .boolean) RX8 G) (hC : clo I) {Q : Int32 → Mem → Prop} : ∀ (M : Mem) (H : Heap) (locs : List Loc) (ls : Array Slot), w_X8_isImage a0 Q M → wd G I ad M H → va_S (fA I ad) s.heap H locs → lv_has ls 1 [(0, .int a0)] → W p l e rm_X8_isImage s m args below meth c H locs 0 0 (MQ below (qI G I ad Q) args s 0 0 (fA I ad)) (F0 m 0 ls []) := by
  have hx := C.1
  have hb := C.2.1
  have hown := C.2.2.2.1
  have hts := C.2.2.2.2.1
  intro M H locs ls hw hP hS hl
  unfold w_X8_isImage at hw
  refine lv_iload_n (pc := 0) hx hb dX8_isImage_0 rfl (lv_at hl 0 rfl) ?_
  refine lv_if_lt (pc := 1) (tgt := 13) hx hb dX8_isImage_1 (by decide) (fun h => ?_) (fun h => ?_)
  · replace hw := if_t h hw
    refine lv_iconst (pc := 13) (v := (0 : Int32)) hx hb dX8_isImage_13 (by decide) ?_
    exact r_zret (pc := 14) C hP hS (by decide) hw dX8_isImage_14
  · replace hw := if_f h hw
    refine lv_iload_n (pc := 4) hx hb dX8_isImage_4 rfl (lv_at hl 0 rfl) ?_
    refine lv_iconst (pc := 5) (v := (2 : Int32)) hx hb dX8_isImage_5 (by decide) ?_
    refine lv_icmp_ge (pc := 6) (tgt := 13) hx hb dX8_isImage_6 (by decide) (fun h => ?_) (fun h => ?_)
    · replace hw := if_t h hw
      refine lv_iconst (pc := 13) (v := (0 : Int32)) hx hb dX8_isImage_13 (by decide) ?_
      exact r_zret (pc := 14) C hP hS (by decide) hw dX8_isImage_14
    · replace hw := if_f h hw
      refine lv_iconst (pc := 9) (v := (1 : Int32)) hx hb dX8_isImage_9 (by decide) ?_
      refine lv_goto (pc := 10) (tgt := 14) hx hb dX8_isImage_10 (by decide) ?_
      exact r_zret (pc := 14) C hP hS (by decide) hw dX8_isImage_14
end
theorem k_X8_isImage (l : Launch) (G : GG) {I : ix → Prop} {ad : ix → Nat} (hC : clo I) {a0 : Int32} {Q : Int32 → Mem → Prop} {M : Mem} (hw : w_X8_isImage a0 Q M) : Met l yX8_isImage (wW yX8_isImage cX8_isImage 1 (some .boolean)) rm_X8_isImage (va_Pc [.int a0] (fun U => wd G I ad M U.heap ∧ wK G U)) (qI G I ad Q) 0 0 (fA I ad) := met_of (by decide +kernel) (Nat.le_of_ble_eq_true rfl) (fun p e s m below meth c C hP hS ls hl => j_X8_isImage_0 C hC  _ _ _ _ hw hP hS hl)
section
variable {p : Program} {l : Launch} {e : Env} {s : State} {m : MethodId} {args : Array Value} {below : List Frame} {meth : Method} {c : Code} 
variable  {G : GG} {I : ix → Prop} {ad : ix → Nat}
set_option maxHeartbeats 4000000 in
set_option maxRecDepth 100000 in
theorem j_X9_in_0 {a0 : Int32} {a1 : Int32} {a2 : Int32} (C : cx p s m args meth c cX9_in 3 (some .boolean) RX9 G) (hC : clo I) {Q : Int32 → Mem → Prop} : ∀ (M : Mem) (H : Heap) (locs : List Loc) (ls : Array Slot), w_X9_in a0 a1 a2 Q M → wd G I ad M H → va_S (fA I ad) s.heap H locs → lv_has ls 3 [(0, .int a0), (1, .int a1), (2, .int a2)] → W p l e rm_X9_in s m args below meth c H locs 0 0 (MQ below (qI G I ad Q) args s 0 0 (fA I ad)) (F0 m 0 ls []) := by
  have hx := C.1
  have hb := C.2.1
  have hown := C.2.2.2.1
  have hts := C.2.2.2.2.1
  intro M H locs ls hw hP hS hl
  unfold w_X9_in at hw
  refine lv_iload_n (pc := 0) hx hb dX9_in_0 rfl (lv_at hl 0 rfl) ?_
  refine lv_iload_n (pc := 1) hx hb dX9_in_1 rfl (lv_at hl 1 rfl) ?_
  refine lv_icmp_lt (pc := 2) (tgt := 14) hx hb dX9_in_2 (by decide) (fun h => ?_) (fun h => ?_)
  · replace hw := if_t h hw
    refine lv_iconst (pc := 14) (v := (0 : Int32)) hx hb dX9_in_14 (by decide) ?_
    exact r_zret (pc := 15) C hP hS (by decide) hw dX9_in_15
  · replace hw := if_f h hw
    refine lv_iload_n (pc := 5) hx hb dX9_in_5 rfl (lv_at hl 0 rfl) ?_
    refine lv_iload_n (pc := 6) hx hb dX9_in_6 rfl (lv_at hl 2 rfl) ?_
    refine lv_icmp_gt (pc := 7) (tgt := 14) hx hb dX9_in_7 (by decide) (fun h => ?_) (fun h => ?_)
    · replace hw := if_t h hw
      refine lv_iconst (pc := 14) (v := (0 : Int32)) hx hb dX9_in_14 (by decide) ?_
      exact r_zret (pc := 15) C hP hS (by decide) hw dX9_in_15
    · replace hw := if_f h hw
      refine lv_iconst (pc := 10) (v := (1 : Int32)) hx hb dX9_in_10 (by decide) ?_
      refine lv_goto (pc := 11) (tgt := 15) hx hb dX9_in_11 (by decide) ?_
      exact r_zret (pc := 15) C hP hS (by decide) hw dX9_in_15
end
theorem k_X9_in (l : Launch) (G : GG) {I : ix → Prop} {ad : ix → Nat} (hC : clo I) {a0 : Int32} {a1 : Int32} {a2 : Int32} {Q : Int32 → Mem → Prop} {M : Mem} (hw : w_X9_in a0 a1 a2 Q M) : Met l yX9_in (wW yX9_in cX9_in 3 (some .boolean)) rm_X9_in (va_Pc [.int a0, .int a1, .int a2] (fun U => wd G I ad M U.heap ∧ wK G U)) (qI G I ad Q) 0 0 (fA I ad) := met_of (by decide +kernel) (Nat.le_of_ble_eq_true rfl) (fun p e s m below meth c C hP hS ls hl => j_X9_in_0 C hC  _ _ _ _ hw hP hS hl)
section
variable {p : Program} {l : Launch} {e : Env} {s : State} {m : MethodId} {args : Array Value} {below : List Frame} {meth : Method} {c : Code} 
variable  {G : GG} {I : ix → Prop} {ad : ix → Nat}
set_option maxHeartbeats 4000000 in
set_option maxRecDepth 100000 in
theorem j_X9_isBlock_0 {a0 : Int32} (C : cx p s m args meth c cX9_isBlock 1 (some .boolean) RX9 G) (hC : clo I) {Q : Int32 → Mem → Prop} : ∀ (M : Mem) (H : Heap) (locs : List Loc) (ls : Array Slot), w_X9_isBlock a0 Q M → wd G I ad M H → va_S (fA I ad) s.heap H locs → lv_has ls 1 [(0, .int a0)] → W p l e rm_X9_isBlock s m args below meth c H locs 0 0 (MQ below (qI G I ad Q) args s 0 0 (fA I ad)) (F0 m 0 ls []) := by
  have hx := C.1
  have hb := C.2.1
  have hown := C.2.2.2.1
  have hts := C.2.2.2.2.1
  intro M H locs ls hw hP hS hl
  unfold w_X9_isBlock at hw
  refine lv_iload_n (pc := 0) hx hb dX9_isBlock_0 rfl (lv_at hl 0 rfl) ?_
  refine lv_iconst (pc := 1) (v := (0 : Int32)) hx hb dX9_isBlock_1 (by decide) ?_
  refine lv_iconst (pc := 2) (v := (5 : Int32)) hx hb dX9_isBlock_2 (by decide) ?_
  refine r_cSI (pc := 3) (rest := []) (As := [.int a0, .int (0 : Int32), .int (5 : Int32)]) C hl.1 hP hS (k_X9_in l G hC  hw) mw_779 mw_780 mw_65 mw_781 ⟨rfl, rfl⟩ hd_X9_in rfl rfl ⟨Nat.le_of_ble_eq_true rfl, Nat.le_of_ble_eq_true rfl⟩ (Nat.le_of_ble_eq_true rfl) ⟨Nat.zero_le _, Nat.zero_le _⟩ dX9_isBlock_3 (fun r3 M3 H locs hw hP hS => ?_)
  exact r_zret (pc := 6) C hP hS hw.1 hw.2 dX9_isBlock_6
end
theorem k_X9_isBlock (l : Launch) (G : GG) {I : ix → Prop} {ad : ix → Nat} (hC : clo I) {a0 : Int32} {Q : Int32 → Mem → Prop} {M : Mem} (hw : w_X9_isBlock a0 Q M) : Met l yX9_isBlock (wW yX9_isBlock cX9_isBlock 1 (some .boolean)) rm_X9_isBlock (va_Pc [.int a0] (fun U => wd G I ad M U.heap ∧ wK G U)) (qI G I ad Q) 0 0 (fA I ad) := met_of (by decide +kernel) (Nat.le_of_ble_eq_true rfl) (fun p e s m below meth c C hP hS ls hl => j_X9_isBlock_0 C hC  _ _ _ _ hw hP hS hl)
section
variable {p : Program} {l : Launch} {e : Env} {s : State} {m : MethodId} {args : Array Value} {below : List Frame} {meth : Method} {c : Code} 
variable  {G : GG} {I : ix → Prop} {ad : ix → Nat}
set_option maxHeartbeats 4000000 in
set_option maxRecDepth 100000 in
theorem j_X9_isColumn_0 {a0 : Int32} (C : cx p s m args meth c cX9_isColumn 1 (some .boolean) RX9 G) (hC : clo I) {Q : Int32 → Mem → Prop} : ∀ (M : Mem) (H : Heap) (locs : List Loc) (ls : Array Slot), w_X9_isColumn a0 Q M → wd G I ad M H → va_S (fA I ad) s.heap H locs → lv_has ls 1 [(0, .int a0)] → W p l e rm_X9_isColumn s m args below meth c H locs 0 0 (MQ below (qI G I ad Q) args s 0 0 (fA I ad)) (F0 m 0 ls []) := by
  have hx := C.1
  have hb := C.2.1
  have hown := C.2.2.2.1
  have hts := C.2.2.2.2.1
  intro M H locs ls hw hP hS hl
  unfold w_X9_isColumn at hw
  refine lv_iload_n (pc := 0) hx hb dX9_isColumn_0 rfl (lv_at hl 0 rfl) ?_
  refine lv_iconst (pc := 1) (v := (0 : Int32)) hx hb dX9_isColumn_1 (by decide) ?_
  refine lv_iconst (pc := 2) (v := (3 : Int32)) hx hb dX9_isColumn_2 (by decide) ?_
  refine r_cSI (pc := 3) (rest := []) (As := [.int a0, .int (0 : Int32), .int (3 : Int32)]) C hl.1 hP hS (k_X9_in l G hC  hw) mw_779 mw_780 mw_65 mw_781 ⟨rfl, rfl⟩ hd_X9_in rfl rfl ⟨Nat.le_of_ble_eq_true rfl, Nat.le_of_ble_eq_true rfl⟩ (Nat.le_of_ble_eq_true rfl) ⟨Nat.zero_le _, Nat.zero_le _⟩ dX9_isColumn_3 (fun r3 M3 H locs hw hP hS => ?_)
  exact r_zret (pc := 6) C hP hS hw.1 hw.2 dX9_isColumn_6
end
theorem k_X9_isColumn (l : Launch) (G : GG) {I : ix → Prop} {ad : ix → Nat} (hC : clo I) {a0 : Int32} {Q : Int32 → Mem → Prop} {M : Mem} (hw : w_X9_isColumn a0 Q M) : Met l yX9_isColumn (wW yX9_isColumn cX9_isColumn 1 (some .boolean)) rm_X9_isColumn (va_Pc [.int a0] (fun U => wd G I ad M U.heap ∧ wK G U)) (qI G I ad Q) 0 0 (fA I ad) := met_of (by decide +kernel) (Nat.le_of_ble_eq_true rfl) (fun p e s m below meth c C hP hS ls hl => j_X9_isColumn_0 C hC  _ _ _ _ hw hP hS hl)
section
variable {p : Program} {l : Launch} {e : Env} {s : State} {m : MethodId} {args : Array Value} {below : List Frame} {meth : Method} {c : Code} 
variable  {G : GG} {I : ix → Prop} {ad : ix → Nat}
set_option maxHeartbeats 4000000 in
set_option maxRecDepth 100000 in
theorem j_X9_isRow_0 {a1 : Int32} {a2 : Int32} (C : cx p s m args meth c cX9_isRow 3 (some .boolean) RX9 G) (hC : clo I) (h0 : I (29, 0, 0, 0)) {Q : Int32 → Mem → Prop} : ∀ (M : Mem) (H : Heap) (locs : List Loc) (ls : Array Slot), w_X9_isRow a1 a2 Q M → wd G I ad M H → va_S (fA I ad) s.heap H locs → lv_has ls 3 [(0, .ref (ad (29, 0, 0, 0))), (1, .int a1), (2, .int a2)] → W p l e rm_X9_isRow s m args below meth c H locs 0 0 (MQ below (qI G I ad Q) args s 0 0 (fA I ad)) (F0 m 0 ls []) := by
  have hx := C.1
  have hb := C.2.1
  have hown := C.2.2.2.1
  have hts := C.2.2.2.2.1
  intro M H locs ls hw hP hS hl
  unfold w_X9_isRow at hw
  refine lv_iload_n (pc := 0) hx hb dX9_isRow_0 rfl (lv_at hl 1 rfl) ?_
  refine r_cSI (pc := 1) (rest := []) (As := [.int a1]) C hl.1 hP hS (k_X9_isBlock l G hC  hw) mw_776 mw_777 mw_65 mw_778 ⟨rfl, rfl⟩ hd_X9_isBlock rfl rfl ⟨Nat.le_of_ble_eq_true rfl, Nat.le_of_ble_eq_true rfl⟩ (Nat.le_of_ble_eq_true rfl) ⟨Nat.zero_le _, Nat.zero_le _⟩ dX9_isRow_1 (fun r1 M1 H locs hw hP hS => ?_)
  refine lv_if_eq (pc := 4) (tgt := 27) hx hb dX9_isRow_4 (by decide) (fun h => ?_) (fun h => ?_)
  · replace hw := if_t h hw
    refine lv_iconst (pc := 27) (v := (0 : Int32)) hx hb dX9_isRow_27 (by decide) ?_
    exact r_zret (pc := 28) C hP hS (by decide) hw dX9_isRow_28
  · replace hw := if_f h hw
    refine lv_iload_n (pc := 7) hx hb dX9_isRow_7 rfl (lv_at hl 2 rfl) ?_
    refine lv_iconst (pc := 8) (v := (0 : Int32)) hx hb dX9_isRow_8 (by decide) ?_
    refine lv_aload_n (pc := 9) hx hb dX9_isRow_9 rfl (lv_at hl 0 rfl) ?_
    refine gf_717 (pc := 10) C hP h0 dX9_isRow_10 ?_
    refine lv_iload_n (pc := 13) hx hb dX9_isRow_13 rfl (lv_at hl 1 rfl) ?_
    refine r_ialdK (pc := 14) (n := 6) (k := a1.toNatClampNeg) C hP (cl_29_1 hC h0) (fun _ _ _ _ => rfl) hw.1 rfl dX9_isRow_14 ?_
    replace hw := hw.2
    refine lv_iconst (pc := 15) (v := (1 : Int32)) hx hb dX9_isRow_15 (by decide) ?_
    refine lv_isub (pc := 16) hx hb dX9_isRow_16 ?_
    refine r_cSI (pc := 17) (rest := []) (As := [.int a2, .int (0 : Int32), .int ((M1.1 (31, 0, 0, 0) a1.toNatClampNeg) - (1 : Int32))]) C hl.1 hP hS (k_X9_in l G hC  hw) mw_779 mw_780 mw_65 mw_781 ⟨rfl, rfl⟩ hd_X9_in rfl rfl ⟨Nat.le_of_ble_eq_true rfl, Nat.le_of_ble_eq_true rfl⟩ (Nat.le_of_ble_eq_true rfl) ⟨Nat.zero_le _, Nat.zero_le _⟩ dX9_isRow_17 (fun r17 M17 H locs hw hP hS => ?_)
    refine lv_if_eq (pc := 20) (tgt := 27) hx hb dX9_isRow_20 (by decide) (fun h => ?_) (fun h => ?_)
    · replace hw := if_t h hw
      refine lv_iconst (pc := 27) (v := (0 : Int32)) hx hb dX9_isRow_27 (by decide) ?_
      exact r_zret (pc := 28) C hP hS (by decide) hw dX9_isRow_28
    · replace hw := if_f h hw
      refine lv_iconst (pc := 23) (v := (1 : Int32)) hx hb dX9_isRow_23 (by decide) ?_
      refine lv_goto (pc := 24) (tgt := 28) hx hb dX9_isRow_24 (by decide) ?_
      exact r_zret (pc := 28) C hP hS (by decide) hw dX9_isRow_28
end
theorem k_X9_isRow (l : Launch) (G : GG) {I : ix → Prop} {ad : ix → Nat} (hC : clo I) {a1 : Int32} {a2 : Int32} (h0 : I (29, 0, 0, 0)) {Q : Int32 → Mem → Prop} {M : Mem} (hw : w_X9_isRow a1 a2 Q M) : Met l yX9_isRow (wW yX9_isRow cX9_isRow 3 (some .boolean)) rm_X9_isRow (va_Pc [.ref (ad (29, 0, 0, 0)), .int a1, .int a2] (fun U => wd G I ad M U.heap ∧ wK G U)) (qI G I ad Q) 0 0 (fA I ad) := met_of (by decide +kernel) (Nat.le_of_ble_eq_true rfl) (fun p e s m below meth c C hP hS ls hl => j_X9_isRow_0 C hC h0 _ _ _ _ hw hP hS hl)
section
variable {p : Program} {l : Launch} {e : Env} {s : State} {m : MethodId} {args : Array Value} {below : List Frame} {meth : Method} {c : Code} 
variable  {G : GG} {I : ix → Prop} {ad : ix → Nat}
set_option maxHeartbeats 4000000 in
set_option maxRecDepth 100000 in
theorem j_X9_at_0 {a1 : Int32} {a2 : Int32} {a3 : Int32} (C : cx p s m args meth c cX9_at 4 (some .int) RX9 G) (hC : clo I) (h0 : I (29, 0, 0, 0)) {Q : Int32 → Mem → Prop} : ∀ (M : Mem) (H : Heap) (locs : List Loc) (ls : Array Slot), w_X9_at a1 a2 a3 Q M → wd G I ad M H → va_S (fA I ad) s.heap H locs → lv_has ls 4 [(0, .ref (ad (29, 0, 0, 0))), (1, .int a1), (2, .int a2), (3, .int a3)] → W p l e rm_X9_at s m args below meth c H locs 0 0 (MQ below (qI G I ad Q) args s 0 0 (fA I ad)) (F0 m 0 ls []) := by
  have hx := C.1
  have hb := C.2.1
  have hown := C.2.2.2.1
  have hts := C.2.2.2.2.1
  intro M H locs ls hw hP hS hl
  unfold w_X9_at at hw
  refine lv_aload_n (pc := 0) hx hb dX9_at_0 rfl (lv_at hl 0 rfl) ?_
  refine gf_716 (pc := 1) C hP h0 dX9_at_1 ?_
  refine lv_bipush (pc := 4) (v := (32 : Int32)) hx hb dX9_at_4 (by decide) ?_
  refine lv_iload_n (pc := 6) hx hb dX9_at_6 rfl (lv_at hl 1 rfl) ?_
  refine lv_imul (pc := 7) hx hb dX9_at_7 ?_
  refine lv_iconst (pc := 8) (v := (4 : Int32)) hx hb dX9_at_8 (by decide) ?_
  refine lv_iload_n (pc := 9) hx hb dX9_at_9 rfl (lv_at hl 2 rfl) ?_
  refine lv_imul (pc := 10) hx hb dX9_at_10 ?_
  refine lv_iadd (pc := 11) hx hb dX9_at_11 ?_
  refine lv_iload_n (pc := 12) hx hb dX9_at_12 rfl (lv_at hl 3 rfl) ?_
  refine lv_iadd (pc := 13) hx hb dX9_at_13 ?_
  refine r_ialdK (pc := 14) (n := 192) (k := ((((32 : Int32) * a1) + ((4 : Int32) * a2)) + a3).toNatClampNeg) C hP (cl_29_0 hC h0) (fun _ _ _ _ => rfl) hw.1 rfl dX9_at_14 ?_
  replace hw := hw.2
  exact r_iret (pc := 15) C hP hS hw dX9_at_15
end
theorem k_X9_at (l : Launch) (G : GG) {I : ix → Prop} {ad : ix → Nat} (hC : clo I) {a1 : Int32} {a2 : Int32} {a3 : Int32} (h0 : I (29, 0, 0, 0)) {Q : Int32 → Mem → Prop} {M : Mem} (hw : w_X9_at a1 a2 a3 Q M) : Met l yX9_at (wW yX9_at cX9_at 4 (some .int)) rm_X9_at (va_Pc [.ref (ad (29, 0, 0, 0)), .int a1, .int a2, .int a3] (fun U => wd G I ad M U.heap ∧ wK G U)) (qI G I ad Q) 0 0 (fA I ad) := met_of (by decide +kernel) (Nat.le_of_ble_eq_true rfl) (fun p e s m below meth c C hP hS ls hl => j_X9_at_0 C hC h0 _ _ _ _ hw hP hS hl)
section
variable {p : Program} {l : Launch} {e : Env} {s : State} {m : MethodId} {args : Array Value} {below : List Frame} {meth : Method} {c : Code} 
variable  {G : GG} {I : ix → Prop} {ad : ix → Nat}
set_option maxHeartbeats 4000000 in
set_option maxRecDepth 100000 in
theorem j_X9_clear_2 {a1 : Int32} (C : cx p s m args meth c cX9_clear 3 none RX9 G) (hC : clo I) (h0 : I (29, 0, 0, 0)) {Q : Mem → Prop} : ∀ (n : Nat), ∀ (x2 : Int32) (M : Mem) (H : Heap) (locs : List Loc) (ls : Array Slot), w_X9_clear_2 a1 Q n x2 M → wd G I ad M H → va_S (fA I ad) s.heap H locs → lv_has ls 3 [(0, .ref (ad (29, 0, 0, 0))), (1, .int a1), (2, .int x2)] → W p l e rm_X9_clear s m args below meth c H locs 0 0 (MQ below (qV G I ad Q) args s 0 0 (fA I ad)) (F0 m 2 ls []) := by
  have hx := C.1
  have hb := C.2.1
  have hown := C.2.2.2.1
  have hts := C.2.2.2.2.1
  intro n
  induction n with
  | zero =>
    intro x2 M H locs ls hw hP hS hl
    rw [w_X9_clear_2] at hw
    exact hw.elim
  | succ n ih =>
    intro x2 M H locs ls hw hP hS hl
    rw [w_X9_clear_2] at hw
    refine lv_iload_n (pc := 2) hx hb dX9_clear_2 rfl (lv_at hl 2 rfl) ?_
    refine lv_bipush (pc := 3) (v := (12 : Int32)) hx hb dX9_clear_3 (by decide) ?_
    refine lv_icmp_ge (pc := 5) (tgt := 36) hx hb dX9_clear_5 (by decide) (fun h => ?_) (fun h => ?_)
    · replace hw := if_t h hw
      exact r_vret (pc := 36) C hP hS hw dX9_clear_36
    · replace hw := if_f h hw
      refine lv_aload_n (pc := 8) hx hb dX9_clear_8 rfl (lv_at hl 0 rfl) ?_
      refine gf_718 (pc := 9) C hP h0 dX9_clear_9 ?_
      refine lv_bipush (pc := 12) (v := (12 : Int32)) hx hb dX9_clear_12 (by decide) ?_
      refine lv_iload_n (pc := 14) hx hb dX9_clear_14 rfl (lv_at hl 1 rfl) ?_
      refine lv_imul (pc := 15) hx hb dX9_clear_15 ?_
      refine lv_iload_n (pc := 16) hx hb dX9_clear_16 rfl (lv_at hl 2 rfl) ?_
      refine lv_iadd (pc := 17) hx hb dX9_clear_17 ?_
      refine lv_iload_n (pc := 18) hx hb dX9_clear_18 rfl (lv_at hl 2 rfl) ?_
      refine lv_iconst (pc := 19) (v := (2 : Int32)) hx hb dX9_clear_19 (by decide) ?_
      refine lv_icmp_ge (pc := 20) (tgt := 28) hx hb dX9_clear_20 (by decide) (fun h => ?_) (fun h => ?_)
      · replace hw := if_t h hw
        refine lv_iconst (pc := 28) (v := (0 : Int32)) hx hb dX9_clear_28 (by decide) ?_
        refine r_iastK (pc := 29) (n := 288) (k := (((12 : Int32) * a1) + x2).toNatClampNeg) C hP hS (cl_29_2 hC h0) (fun _ _ _ _ => rfl) hw.1 rfl dX9_clear_29 (fun H locs hP hS => ?_)
        replace hw := hw.2
        refine lv_iinc (pc := 30) (v := x2 + 1) (lv' := [(2, .int (x2 + 1)), (0, .ref (ad (29, 0, 0, 0))), (1, .int a1)]) hx hb dX9_clear_30 hl (k := 2) rfl rfl (by decide) rfl (fun ls hl => ?_)
        refine lv_goto (pc := 33) (tgt := 2) hx hb dX9_clear_33 (by decide) ?_
        exact ih (x2 + 1) (mu M (32, 0, 0, 0) ((((12 : Int32) * a1) + x2).toNatClampNeg) (0 : Int32)) _ _ _ hw hP hS (lv_sub hl [1, 2, 0] rfl)
      · replace hw := if_f h hw
        refine lv_ldc (pc := 23) (own := RX9) (v := (-2000000 : Int32)) hx hb hown (hts _ mw_715) dX9_clear_23 ?_
        refine lv_goto (pc := 25) (tgt := 29) hx hb dX9_clear_25 (by decide) ?_
        refine r_iastK (pc := 29) (n := 288) (k := (((12 : Int32) * a1) + x2).toNatClampNeg) C hP hS (cl_29_2 hC h0) (fun _ _ _ _ => rfl) hw.1 rfl dX9_clear_29 (fun H locs hP hS => ?_)
        replace hw := hw.2
        refine lv_iinc (pc := 30) (v := x2 + 1) (lv' := [(2, .int (x2 + 1)), (0, .ref (ad (29, 0, 0, 0))), (1, .int a1)]) hx hb dX9_clear_30 hl (k := 2) rfl rfl (by decide) rfl (fun ls hl => ?_)
        refine lv_goto (pc := 33) (tgt := 2) hx hb dX9_clear_33 (by decide) ?_
        exact ih (x2 + 1) (mu M (32, 0, 0, 0) ((((12 : Int32) * a1) + x2).toNatClampNeg) (-2000000 : Int32)) _ _ _ hw hP hS (lv_sub hl [1, 2, 0] rfl)
set_option maxHeartbeats 4000000 in
set_option maxRecDepth 100000 in
theorem j_X9_clear_0 {a1 : Int32} (C : cx p s m args meth c cX9_clear 3 none RX9 G) (hC : clo I) (h0 : I (29, 0, 0, 0)) {Q : Mem → Prop} : ∀ (M : Mem) (H : Heap) (locs : List Loc) (ls : Array Slot), w_X9_clear a1 Q M → wd G I ad M H → va_S (fA I ad) s.heap H locs → lv_has ls 3 [(0, .ref (ad (29, 0, 0, 0))), (1, .int a1)] → W p l e rm_X9_clear s m args below meth c H locs 0 0 (MQ below (qV G I ad Q) args s 0 0 (fA I ad)) (F0 m 0 ls []) := by
  have hx := C.1
  have hb := C.2.1
  have hown := C.2.2.2.1
  have hts := C.2.2.2.2.1
  intro M H locs ls hw hP hS hl
  unfold w_X9_clear at hw
  refine lv_iconst (pc := 0) (v := (0 : Int32)) hx hb dX9_clear_0 (by decide) ?_
  refine lv_istore_n (pc := 1) (lv' := [(2, .int (0 : Int32)), (0, .ref (ad (29, 0, 0, 0))), (1, .int a1)]) hx hb dX9_clear_1 rfl hl (by decide) rfl (fun ls hl => ?_)
  obtain ⟨n0, hw⟩ := hw
  exact j_X9_clear_2 C hC h0 n0 (0 : Int32) M _ _ _ hw hP hS (lv_sub hl [1, 2, 0] rfl)
end
theorem k_X9_clear (l : Launch) (G : GG) {I : ix → Prop} {ad : ix → Nat} (hC : clo I) {a1 : Int32} (h0 : I (29, 0, 0, 0)) {Q : Mem → Prop} {M : Mem} (hw : w_X9_clear a1 Q M) : Met l yX9_clear (wW yX9_clear cX9_clear 3 none) rm_X9_clear (va_Pc [.ref (ad (29, 0, 0, 0)), .int a1] (fun U => wd G I ad M U.heap ∧ wK G U)) (qV G I ad Q) 0 0 (fA I ad) := met_of (by decide +kernel) (Nat.le_of_ble_eq_true rfl) (fun p e s m below meth c C hP hS ls hl => j_X9_clear_0 C hC h0 _ _ _ _ hw hP hS hl)
