section
variable {p : Program} {l : Launch} {e : Env} {s : State} {m : MethodId} {args : Array Value} {below : List Frame} {meth : Method} {c : Code} 
variable  {G : GG} {I : ix → Prop} {ad : ix → Nat}
set_option maxHeartbeats 4000000 in
set_option maxRecDepth 100000 in
theorem j_X9_layBlock_7 {a1 : Int32} (C : cx p s m args meth c cX9_layBlock 3 none RX9 G) (hC : clo I) (h0 : I (29, 0, 0, 0)) {Q : Mem → Prop} : ∀ (n : Nat), ∀ (x2 : Int32) (M : Mem) (H : Heap) (locs : List Loc) (ls : Array Slot), w_X9_layBlock_7 a1 Q n x2 M → wd G I ad M H → va_S (fA I ad) s.heap H locs → lv_has ls 3 [(0, .ref (ad (29, 0, 0, 0))), (1, .int a1), (2, .int x2)] → W p l e rm_X9_layBlock s m args below meth c H locs 0 0 (MQ below (qV G I ad Q) args s 0 0 (fA I ad)) (F0 m 7 ls []) := by
  have hx := C.1
  have hb := C.2.1
  have hown := C.2.2.2.1
  have hts := C.2.2.2.2.1
  intro n
  induction n with
  | zero =>
    intro x2 M H locs ls hw hP hS hl
    rw [w_X9_layBlock_7] at hw
    exact hw.elim
  | succ n ih =>
    intro x2 M H locs ls hw hP hS hl
    rw [w_X9_layBlock_7] at hw
    refine lv_iload_n (pc := 7) hx hb dX9_layBlock_7 rfl (lv_at hl 2 rfl) ?_
    refine lv_if_lt (pc := 8) (tgt := 68) hx hb dX9_layBlock_8 (by decide) (fun h => ?_) (fun h => ?_)
    · replace hw := if_t h hw
      exact r_vret (pc := 68) C hP hS hw dX9_layBlock_68
    · replace hw := if_f h hw
      refine lv_aload_n (pc := 11) hx hb dX9_layBlock_11 rfl (lv_at hl 0 rfl) ?_
      refine gf_722 (pc := 12) C hP h0 dX9_layBlock_12 ?_
      refine lv_iload_n (pc := 15) hx hb dX9_layBlock_15 rfl (lv_at hl 2 rfl) ?_
      refine r_ialdK (pc := 16) (n := 60) (k := x2.toNatClampNeg) C hP (cl_29_6 hC h0) (fun _ _ _ _ => rfl) hw.1 rfl dX9_layBlock_16 ?_
      replace hw := hw.2
      refine lv_ldc (pc := 17) (own := RX9) (v := (-2000000 : Int32)) hx hb hown (hts _ mw_715) dX9_layBlock_17 ?_
      refine lv_icmp_eq (pc := 19) (tgt := 39) hx hb dX9_layBlock_19 (by decide) (fun h => ?_) (fun h => ?_)
      · replace hw := if_t h hw
        refine lv_aload_n (pc := 39) hx hb dX9_layBlock_39 rfl (lv_at hl 0 rfl) ?_
        refine gf_722 (pc := 40) C hP h0 dX9_layBlock_40 ?_
        refine lv_iload_n (pc := 43) hx hb dX9_layBlock_43 rfl (lv_at hl 2 rfl) ?_
        refine r_ialdK (pc := 44) (n := 60) (k := x2.toNatClampNeg) C hP (cl_29_6 hC h0) (fun _ _ _ _ => rfl) hw.1 rfl dX9_layBlock_44 ?_
        replace hw := hw.2
        refine lv_ldc (pc := 45) (own := RX9) (v := (-2000000 : Int32)) hx hb hown (hts _ mw_715) dX9_layBlock_45 ?_
        refine lv_icmp_eq (pc := 47) (tgt := 62) hx hb dX9_layBlock_47 (by decide) (fun h => ?_) (fun h => ?_)
        · replace hw := if_t h hw
          refine lv_iinc (pc := 62) (v := x2 + (-1)) (lv' := [(2, .int (x2 + (-1))), (0, .ref (ad (29, 0, 0, 0))), (1, .int a1)]) hx hb dX9_layBlock_62 hl (k := 2) rfl rfl (by decide) rfl (fun ls hl => ?_)
          refine lv_goto (pc := 65) (tgt := 7) hx hb dX9_layBlock_65 (by decide) ?_
          exact ih (x2 + (-1)) M _ _ _ hw hP hS (lv_sub hl [1, 2, 0] rfl)
        · replace hw := if_f h hw
          refine lv_aload_n (pc := 50) hx hb dX9_layBlock_50 rfl (lv_at hl 0 rfl) ?_
          refine gf_729 (pc := 51) C hP h0 dX9_layBlock_51 ?_
          refine lv_iload_n (pc := 54) hx hb dX9_layBlock_54 rfl (lv_at hl 2 rfl) ?_
          refine lv_aload_n (pc := 55) hx hb dX9_layBlock_55 rfl (lv_at hl 0 rfl) ?_
          refine lv_iload_n (pc := 56) hx hb dX9_layBlock_56 rfl (lv_at hl 1 rfl) ?_
          refine lv_iload_n (pc := 57) hx hb dX9_layBlock_57 rfl (lv_at hl 2 rfl) ?_
          refine r_cVI (pc := 58) (rest := [.int x2, .ref (ad (42, 0, 0, 0))]) (As := [.int a1, .int x2]) C hl.1 hP hS (k_X9_mayAt l G hC h0 hw) h0 rfl rfl mw_917 mw_919 mw_50 mw_65 mw_920 ⟨rfl, rfl⟩ hd_X9_mayAt rfl rfl ⟨Nat.le_of_ble_eq_true rfl, Nat.le_of_ble_eq_true rfl⟩ (Nat.le_of_ble_eq_true rfl) ⟨Nat.zero_le _, Nat.zero_le _⟩ dX9_layBlock_58 (fun r58 M58 H locs hw hP hS => ?_)
          refine r_iastK (pc := 61) (n := 60) (k := x2.toNatClampNeg) C hP hS (cl_29_13 hC h0) (fun _ _ _ _ => rfl) hw.1 rfl dX9_layBlock_61 (fun H locs hP hS => ?_)
          replace hw := hw.2
          refine lv_iinc (pc := 62) (v := x2 + (-1)) (lv' := [(2, .int (x2 + (-1))), (0, .ref (ad (29, 0, 0, 0))), (1, .int a1)]) hx hb dX9_layBlock_62 hl (k := 2) rfl rfl (by decide) rfl (fun ls hl => ?_)
          refine lv_goto (pc := 65) (tgt := 7) hx hb dX9_layBlock_65 (by decide) ?_
          exact ih (x2 + (-1)) (mu M58 (42, 0, 0, 0) (x2.toNatClampNeg) r58) _ _ _ hw hP hS (lv_sub hl [1, 2, 0] rfl)
      · replace hw := if_f h hw
        refine lv_aload_n (pc := 22) hx hb dX9_layBlock_22 rfl (lv_at hl 0 rfl) ?_
        refine lv_iload_n (pc := 23) hx hb dX9_layBlock_23 rfl (lv_at hl 2 rfl) ?_
        refine r_cVI (pc := 24) (rest := []) (As := [.int x2]) C hl.1 hP hS (k_X9_isTerm l G hC h0 hw) h0 rfl rfl mw_868 mw_870 mw_44 mw_65 mw_871 ⟨rfl, rfl⟩ hd_X9_isTerm rfl rfl ⟨Nat.le_of_ble_eq_true rfl, Nat.le_of_ble_eq_true rfl⟩ (Nat.le_of_ble_eq_true rfl) ⟨Nat.zero_le _, Nat.zero_le _⟩ dX9_layBlock_24 (fun r24 M24 H locs hw hP hS => ?_)
        refine lv_if_eq (pc := 27) (tgt := 39) hx hb dX9_layBlock_27 (by decide) (fun h => ?_) (fun h => ?_)
        · replace hw := if_t h hw
          refine lv_aload_n (pc := 39) hx hb dX9_layBlock_39 rfl (lv_at hl 0 rfl) ?_
          refine gf_722 (pc := 40) C hP h0 dX9_layBlock_40 ?_
          refine lv_iload_n (pc := 43) hx hb dX9_layBlock_43 rfl (lv_at hl 2 rfl) ?_
          refine r_ialdK (pc := 44) (n := 60) (k := x2.toNatClampNeg) C hP (cl_29_6 hC h0) (fun _ _ _ _ => rfl) hw.1 rfl dX9_layBlock_44 ?_
          replace hw := hw.2
          refine lv_ldc (pc := 45) (own := RX9) (v := (-2000000 : Int32)) hx hb hown (hts _ mw_715) dX9_layBlock_45 ?_
          refine lv_icmp_eq (pc := 47) (tgt := 62) hx hb dX9_layBlock_47 (by decide) (fun h => ?_) (fun h => ?_)
          · replace hw := if_t h hw
            refine lv_iinc (pc := 62) (v := x2 + (-1)) (lv' := [(2, .int (x2 + (-1))), (0, .ref (ad (29, 0, 0, 0))), (1, .int a1)]) hx hb dX9_layBlock_62 hl (k := 2) rfl rfl (by decide) rfl (fun ls hl => ?_)
            refine lv_goto (pc := 65) (tgt := 7) hx hb dX9_layBlock_65 (by decide) ?_
            exact ih (x2 + (-1)) M24 _ _ _ hw hP hS (lv_sub hl [1, 2, 0] rfl)
          · replace hw := if_f h hw
            refine lv_aload_n (pc := 50) hx hb dX9_layBlock_50 rfl (lv_at hl 0 rfl) ?_
            refine gf_729 (pc := 51) C hP h0 dX9_layBlock_51 ?_
            refine lv_iload_n (pc := 54) hx hb dX9_layBlock_54 rfl (lv_at hl 2 rfl) ?_
            refine lv_aload_n (pc := 55) hx hb dX9_layBlock_55 rfl (lv_at hl 0 rfl) ?_
            refine lv_iload_n (pc := 56) hx hb dX9_layBlock_56 rfl (lv_at hl 1 rfl) ?_
            refine lv_iload_n (pc := 57) hx hb dX9_layBlock_57 rfl (lv_at hl 2 rfl) ?_
            refine r_cVI (pc := 58) (rest := [.int x2, .ref (ad (42, 0, 0, 0))]) (As := [.int a1, .int x2]) C hl.1 hP hS (k_X9_mayAt l G hC h0 hw) h0 rfl rfl mw_917 mw_919 mw_50 mw_65 mw_920 ⟨rfl, rfl⟩ hd_X9_mayAt rfl rfl ⟨Nat.le_of_ble_eq_true rfl, Nat.le_of_ble_eq_true rfl⟩ (Nat.le_of_ble_eq_true rfl) ⟨Nat.zero_le _, Nat.zero_le _⟩ dX9_layBlock_58 (fun r58 M58 H locs hw hP hS => ?_)
            refine r_iastK (pc := 61) (n := 60) (k := x2.toNatClampNeg) C hP hS (cl_29_13 hC h0) (fun _ _ _ _ => rfl) hw.1 rfl dX9_layBlock_61 (fun H locs hP hS => ?_)
            replace hw := hw.2
            refine lv_iinc (pc := 62) (v := x2 + (-1)) (lv' := [(2, .int (x2 + (-1))), (0, .ref (ad (29, 0, 0, 0))), (1, .int a1)]) hx hb dX9_layBlock_62 hl (k := 2) rfl rfl (by decide) rfl (fun ls hl => ?_)
            refine lv_goto (pc := 65) (tgt := 7) hx hb dX9_layBlock_65 (by decide) ?_
            exact ih (x2 + (-1)) (mu M58 (42, 0, 0, 0) (x2.toNatClampNeg) r58) _ _ _ hw hP hS (lv_sub hl [1, 2, 0] rfl)
        · replace hw := if_f h hw
          refine lv_aload_n (pc := 30) hx hb dX9_layBlock_30 rfl (lv_at hl 0 rfl) ?_
          refine lv_iload_n (pc := 31) hx hb dX9_layBlock_31 rfl (lv_at hl 1 rfl) ?_
          refine lv_iload_n (pc := 32) hx hb dX9_layBlock_32 rfl (lv_at hl 2 rfl) ?_
          refine r_cVV (pc := 33) (rest := []) (As := [.int a1, .int x2]) C hl.1 hP hS (k_X9_layRange l G hC h0 hw) h0 rfl rfl mw_913 mw_915 mw_49 mw_65 mw_916 ⟨rfl, rfl⟩ hd_X9_layRange rfl rfl ⟨Nat.le_of_ble_eq_true rfl, Nat.le_of_ble_eq_true rfl⟩ (Nat.le_of_ble_eq_true rfl) ⟨Nat.zero_le _, Nat.zero_le _⟩ dX9_layBlock_33 (fun M33 H locs hw hP hS => ?_)
          refine lv_goto (pc := 36) (tgt := 62) hx hb dX9_layBlock_36 (by decide) ?_
          refine lv_iinc (pc := 62) (v := x2 + (-1)) (lv' := [(2, .int (x2 + (-1))), (0, .ref (ad (29, 0, 0, 0))), (1, .int a1)]) hx hb dX9_layBlock_62 hl (k := 2) rfl rfl (by decide) rfl (fun ls hl => ?_)
          refine lv_goto (pc := 65) (tgt := 7) hx hb dX9_layBlock_65 (by decide) ?_
          exact ih (x2 + (-1)) M33 _ _ _ hw hP hS (lv_sub hl [1, 2, 0] rfl)
set_option maxHeartbeats 4000000 in
set_option maxRecDepth 100000 in
theorem j_X9_layBlock_0 {a1 : Int32} (C : cx p s m args meth c cX9_layBlock 3 none RX9 G) (hC : clo I) (h0 : I (29, 0, 0, 0)) {Q : Mem → Prop} : ∀ (M : Mem) (H : Heap) (locs : List Loc) (ls : Array Slot), w_X9_layBlock a1 Q M → wd G I ad M H → va_S (fA I ad) s.heap H locs → lv_has ls 3 [(0, .ref (ad (29, 0, 0, 0))), (1, .int a1)] → W p l e rm_X9_layBlock s m args below meth c H locs 0 0 (MQ below (qV G I ad Q) args s 0 0 (fA I ad)) (F0 m 0 ls []) := by
  have hx := C.1
  have hb := C.2.1
  have hown := C.2.2.2.1
  have hts := C.2.2.2.2.1
  intro M H locs ls hw hP hS hl
  unfold w_X9_layBlock at hw
  refine lv_aload_n (pc := 0) hx hb dX9_layBlock_0 rfl (lv_at hl 0 rfl) ?_
  refine gf_720 (pc := 1) C hP h0 dX9_layBlock_1 ?_
  refine lv_iconst (pc := 4) (v := (1 : Int32)) hx hb dX9_layBlock_4 (by decide) ?_
  refine lv_isub (pc := 5) hx hb dX9_layBlock_5 ?_
  refine lv_topi (fun x2_6 ex2_6 => ?_)
  replace hw := hw x2_6 ex2_6
  refine lv_istore_n (pc := 6) (lv' := [(2, .int x2_6), (0, .ref (ad (29, 0, 0, 0))), (1, .int a1)]) hx hb dX9_layBlock_6 rfl hl (by decide) rfl (fun ls hl => ?_)
  obtain ⟨n0, hw⟩ := hw
  exact j_X9_layBlock_7 C hC h0 n0 x2_6 M _ _ _ hw hP hS (lv_sub hl [1, 2, 0] rfl)
end
theorem k_X9_layBlock (l : Launch) (G : GG) {I : ix → Prop} {ad : ix → Nat} (hC : clo I) {a1 : Int32} (h0 : I (29, 0, 0, 0)) {Q : Mem → Prop} {M : Mem} (hw : w_X9_layBlock a1 Q M) : Met l yX9_layBlock (wW yX9_layBlock cX9_layBlock 3 none) rm_X9_layBlock (va_Pc [.ref (ad (29, 0, 0, 0)), .int a1] (fun U => wd G I ad M U.heap ∧ wK G U)) (qV G I ad Q) 0 0 (fA I ad) := met_of (by decide +kernel) (Nat.le_of_ble_eq_true rfl) (fun p e s m below meth c C hP hS ls hl => j_X9_layBlock_0 C hC h0 _ _ _ _ hw hP hS hl)
section
variable {p : Program} {l : Launch} {e : Env} {s : State} {m : MethodId} {args : Array Value} {below : List Frame} {meth : Method} {c : Code} 
variable  {G : GG} {I : ix → Prop} {ad : ix → Nat}
set_option maxHeartbeats 4000000 in
set_option maxRecDepth 100000 in
theorem j_X9_range_0 {a1 : Int32} {a2 : Int32} {a3 : Int32} (C : cx p s m args meth c cX9_range 5 (some .int) RX9 G) (hC : clo I) (h0 : I (29, 0, 0, 0)) {Q : Int32 → Mem → Prop} : ∀ (M : Mem) (H : Heap) (locs : List Loc) (ls : Array Slot), w_X9_range a1 a2 a3 Q M → wd G I ad M H → va_S (fA I ad) s.heap H locs → lv_has ls 5 [(0, .ref (ad (29, 0, 0, 0))), (1, .int a1), (2, .int a2), (3, .int a3)] → W p l e rm_X9_range s m args below meth c H locs 0 0 (MQ below (qI G I ad Q) args s 0 0 (fA I ad)) (F0 m 0 ls []) := by
  have hx := C.1
  have hb := C.2.1
  have hown := C.2.2.2.1
  have hts := C.2.2.2.2.1
  intro M H locs ls hw hP hS hl
  unfold w_X9_range at hw
  refine lv_iload_n (pc := 0) hx hb dX9_range_0 rfl (lv_at hl 1 rfl) ?_
  refine r_cSI (pc := 1) (rest := []) (As := [.int a1]) C hl.1 hP hS (k_X9_isBlock l G hC  hw) mw_776 mw_777 mw_65 mw_778 ⟨rfl, rfl⟩ hd_X9_isBlock rfl rfl ⟨Nat.le_of_ble_eq_true rfl, Nat.le_of_ble_eq_true rfl⟩ (Nat.le_of_ble_eq_true rfl) ⟨Nat.zero_le _, Nat.zero_le _⟩ dX9_range_1 (fun r1 M1 H locs hw hP hS => ?_)
  refine lv_if_ne (pc := 4) (tgt := 10) hx hb dX9_range_4 (by decide) (fun h => ?_) (fun h => ?_)
  · replace hw := if_f h hw
    refine lv_iload_n (pc := 10) hx hb dX9_range_10 rfl (lv_at hl 2 rfl) ?_
    refine lv_iconst (pc := 11) (v := (0 : Int32)) hx hb dX9_range_11 (by decide) ?_
    refine lv_aload_n (pc := 12) hx hb dX9_range_12 rfl (lv_at hl 0 rfl) ?_
    refine gf_720 (pc := 13) C hP h0 dX9_range_13 ?_
    refine lv_iconst (pc := 16) (v := (1 : Int32)) hx hb dX9_range_16 (by decide) ?_
    refine lv_isub (pc := 17) hx hb dX9_range_17 ?_
    refine r_cSI (pc := 18) (rest := []) (As := [.int a2, .int (0 : Int32), .int ((M1.1 (29, 0, 0, 0) 4) - (1 : Int32))]) C hl.1 hP hS (k_X9_in l G hC  hw) mw_779 mw_780 mw_65 mw_781 ⟨rfl, rfl⟩ hd_X9_in rfl rfl ⟨Nat.le_of_ble_eq_true rfl, Nat.le_of_ble_eq_true rfl⟩ (Nat.le_of_ble_eq_true rfl) ⟨Nat.zero_le _, Nat.zero_le _⟩ dX9_range_18 (fun r18 M18 H locs hw hP hS => ?_)
    refine lv_if_eq (pc := 21) (tgt := 33) hx hb dX9_range_21 (by decide) (fun h => ?_) (fun h => ?_)
    · replace hw := if_t h hw
      refine lv_ldc (pc := 33) (own := RX9) (v := (-3000002 : Int32)) hx hb hown (hts _ mw_826) dX9_range_33 ?_
      exact r_iret (pc := 35) C hP hS hw dX9_range_35
    · replace hw := if_f h hw
      refine lv_iload_n (pc := 24) hx hb dX9_range_24 rfl (lv_at hl 3 rfl) ?_
      refine lv_iconst (pc := 25) (v := (0 : Int32)) hx hb dX9_range_25 (by decide) ?_
      refine lv_iconst (pc := 26) (v := (2 : Int32)) hx hb dX9_range_26 (by decide) ?_
      refine r_cSI (pc := 27) (rest := []) (As := [.int a3, .int (0 : Int32), .int (2 : Int32)]) C hl.1 hP hS (k_X9_in l G hC  hw) mw_779 mw_780 mw_65 mw_781 ⟨rfl, rfl⟩ hd_X9_in rfl rfl ⟨Nat.le_of_ble_eq_true rfl, Nat.le_of_ble_eq_true rfl⟩ (Nat.le_of_ble_eq_true rfl) ⟨Nat.zero_le _, Nat.zero_le _⟩ dX9_range_27 (fun r27 M27 H locs hw hP hS => ?_)
      refine lv_if_ne (pc := 30) (tgt := 36) hx hb dX9_range_30 (by decide) (fun h => ?_) (fun h => ?_)
      · replace hw := if_f h hw
        refine lv_aload_n (pc := 36) hx hb dX9_range_36 rfl (lv_at hl 0 rfl) ?_
        refine r_cVI (pc := 37) (rest := []) (As := []) C hl.1 hP hS (k_X9_read l G hC h0 hw) h0 rfl rfl mw_843 mw_845 mw_41 mw_65 mw_846 ⟨rfl, rfl⟩ hd_X9_read rfl rfl ⟨Nat.le_of_ble_eq_true rfl, Nat.le_of_ble_eq_true rfl⟩ (Nat.le_of_ble_eq_true rfl) ⟨Nat.zero_le _, Nat.zero_le _⟩ dX9_range_37 (fun r37 M37 H locs hw hP hS => ?_)
        refine lv_ldc (pc := 40) (own := RX9) (v := (-2000000 : Int32)) hx hb hown (hts _ mw_715) dX9_range_40 ?_
        refine lv_icmp_eq (pc := 42) (tgt := 48) hx hb dX9_range_42 (by decide) (fun h => ?_) (fun h => ?_)
        · replace hw := if_t h hw
          refine lv_aload_n (pc := 48) hx hb dX9_range_48 rfl (lv_at hl 0 rfl) ?_
          refine gf_717 (pc := 49) C hP h0 dX9_range_49 ?_
          refine lv_iload_n (pc := 52) hx hb dX9_range_52 rfl (lv_at hl 1 rfl) ?_
          refine r_ialdK (pc := 53) (n := 6) (k := a1.toNatClampNeg) C hP (cl_29_1 hC h0) (fun _ _ _ _ => rfl) hw.1 rfl dX9_range_53 ?_
          replace hw := hw.2
          refine lv_if_eq (pc := 54) (tgt := 65) hx hb dX9_range_54 (by decide) (fun h => ?_) (fun h => ?_)
          · replace hw := if_t h hw
            refine lv_ldc (pc := 65) (own := RX9) (v := (-3000003 : Int32)) hx hb hown (hts _ mw_908) dX9_range_65 ?_
            exact r_iret (pc := 67) C hP hS hw dX9_range_67
          · replace hw := if_f h hw
            refine lv_aload_n (pc := 57) hx hb dX9_range_57 rfl (lv_at hl 0 rfl) ?_
            refine lv_iload_n (pc := 58) hx hb dX9_range_58 rfl (lv_at hl 2 rfl) ?_
            refine r_cVI (pc := 59) (rest := []) (As := [.int a2]) C hl.1 hP hS (k_X9_isTerm l G hC h0 hw) h0 rfl rfl mw_868 mw_870 mw_44 mw_65 mw_871 ⟨rfl, rfl⟩ hd_X9_isTerm rfl rfl ⟨Nat.le_of_ble_eq_true rfl, Nat.le_of_ble_eq_true rfl⟩ (Nat.le_of_ble_eq_true rfl) ⟨Nat.zero_le _, Nat.zero_le _⟩ dX9_range_59 (fun r59 M59 H locs hw hP hS => ?_)
            refine lv_if_ne (pc := 62) (tgt := 68) hx hb dX9_range_62 (by decide) (fun h => ?_) (fun h => ?_)
            · replace hw := if_f h hw
              refine lv_aload_n (pc := 68) hx hb dX9_range_68 rfl (lv_at hl 0 rfl) ?_
              refine lv_iload_n (pc := 69) hx hb dX9_range_69 rfl (lv_at hl 1 rfl) ?_
              refine r_cVV (pc := 70) (rest := []) (As := [.int a1]) C hl.1 hP hS (k_X9_layBlock l G hC h0 hw) h0 rfl rfl mw_909 mw_911 mw_48 mw_65 mw_912 ⟨rfl, rfl⟩ hd_X9_layBlock rfl rfl ⟨Nat.le_of_ble_eq_true rfl, Nat.le_of_ble_eq_true rfl⟩ (Nat.le_of_ble_eq_true rfl) ⟨Nat.zero_le _, Nat.zero_le _⟩ dX9_range_70 (fun M70 H locs hw hP hS => ?_)
              refine lv_aload_n (pc := 73) hx hb dX9_range_73 rfl (lv_at hl 0 rfl) ?_
              refine gf_729 (pc := 74) C hP h0 dX9_range_74 ?_
              refine lv_iload_n (pc := 77) hx hb dX9_range_77 rfl (lv_at hl 2 rfl) ?_
              refine r_ialdK (pc := 78) (n := 60) (k := a2.toNatClampNeg) C hP (cl_29_13 hC h0) (fun _ _ _ _ => rfl) hw.1 rfl dX9_range_78 ?_
              replace hw := hw.2
              refine lv_iconst (pc := 79) (v := (1 : Int32)) hx hb dX9_range_79 (by decide) ?_
              refine lv_iand (pc := 80) hx hb dX9_range_80 ?_
              refine lv_iconst (pc := 81) (v := (1 : Int32)) hx hb dX9_range_81 (by decide) ?_
              refine lv_icmp_ne (pc := 82) (tgt := 89) hx hb dX9_range_82 (by decide) (fun h => ?_) (fun h => ?_)
              · replace hw := if_f h hw
                refine lv_iconst (pc := 89) (v := (0 : Int32)) hx hb dX9_range_89 (by decide) ?_
                refine lv_istore (pc := 90) (lv' := [(4, .int (0 : Int32)), (0, .ref (ad (29, 0, 0, 0))), (1, .int a1), (2, .int a2), (3, .int a3)]) hx hb dX9_range_90 hl (by decide) rfl (fun ls hl => ?_)
                refine lv_iload_n (pc := 92) hx hb dX9_range_92 rfl (lv_at hl 4 rfl) ?_
                refine lv_if_ne (pc := 93) (tgt := 105) hx hb dX9_range_93 (by decide) (fun h => ?_) (fun h => ?_)
                · replace hw := if_f h hw
                  refine lv_iload (pc := 105) hx hb dX9_range_105 (lv_at hl 0 rfl) ?_
                  refine lv_if_ne (pc := 107) (tgt := 115) hx hb dX9_range_107 (by decide) (fun h => ?_) (fun h => ?_)
                  · replace hw := if_f h hw
                    refine lv_iload_n (pc := 115) hx hb dX9_range_115 rfl (lv_at hl 4 rfl) ?_
                    refine lv_iconst (pc := 116) (v := (1 : Int32)) hx hb dX9_range_116 (by decide) ?_
                    refine lv_icmp_ne (pc := 117) (tgt := 129) hx hb dX9_range_117 (by decide) (fun h => ?_) (fun h => ?_)
                    · replace hw := if_f h hw
                      refine lv_aload_n (pc := 129) hx hb dX9_range_129 rfl (lv_at hl 1 rfl) ?_
                      refine gf_731 (pc := 130) C hP h0 dX9_range_130 ?_
                      refine lv_iload_n (pc := 133) hx hb dX9_range_133 rfl (lv_at hl 3 rfl) ?_
                      refine r_ialdK (pc := 134) (n := 60) (k := a2.toNatClampNeg) C hP (cl_29_15 hC h0) (fun _ _ _ _ => rfl) hw.1 rfl dX9_range_134 ?_
                      replace hw := hw.2
                      exact r_iret (pc := 135) C hP hS hw dX9_range_135
                    · replace hw := if_t h hw
                      refine lv_aload_n (pc := 120) hx hb dX9_range_120 rfl (lv_at hl 1 rfl) ?_
                      refine gf_730 (pc := 121) C hP h0 dX9_range_121 ?_
                      refine lv_iload_n (pc := 124) hx hb dX9_range_124 rfl (lv_at hl 3 rfl) ?_
                      refine r_ialdK (pc := 125) (n := 60) (k := a2.toNatClampNeg) C hP (cl_29_14 hC h0) (fun _ _ _ _ => rfl) hw.1 rfl dX9_range_125 ?_
                      replace hw := hw.2
                      refine lv_goto (pc := 126) (tgt := 135) hx hb dX9_range_126 (by decide) ?_
                      exact r_iret (pc := 135) C hP hS hw dX9_range_135
                  · replace hw := if_t h hw
                    refine lv_ldc (pc := 110) (own := RX9) (v := (-2000000 : Int32)) hx hb hown (hts _ mw_715) dX9_range_110 ?_
                    refine lv_goto (pc := 112) (tgt := 135) hx hb dX9_range_112 (by decide) ?_
                    exact r_iret (pc := 135) C hP hS hw dX9_range_135
                · replace hw := if_t h hw
                  refine lv_aload_n (pc := 96) hx hb dX9_range_96 rfl (lv_at hl 1 rfl) ?_
                  refine gf_729 (pc := 97) C hP h0 dX9_range_97 ?_
                  refine lv_iload_n (pc := 100) hx hb dX9_range_100 rfl (lv_at hl 3 rfl) ?_
                  refine r_ialdK (pc := 101) (n := 60) (k := a2.toNatClampNeg) C hP (cl_29_13 hC h0) (fun _ _ _ _ => rfl) hw.1 rfl dX9_range_101 ?_
                  replace hw := hw.2
                  refine lv_goto (pc := 102) (tgt := 135) hx hb dX9_range_102 (by decide) ?_
                  exact r_iret (pc := 135) C hP hS hw dX9_range_135
              · replace hw := if_t h hw
                refine lv_iconst (pc := 85) (v := (1 : Int32)) hx hb dX9_range_85 (by decide) ?_
                refine lv_goto (pc := 86) (tgt := 90) hx hb dX9_range_86 (by decide) ?_
                refine lv_istore (pc := 90) (lv' := [(4, .int (1 : Int32)), (0, .ref (ad (29, 0, 0, 0))), (1, .int a1), (2, .int a2), (3, .int a3)]) hx hb dX9_range_90 hl (by decide) rfl (fun ls hl => ?_)
                refine lv_iload_n (pc := 92) hx hb dX9_range_92 rfl (lv_at hl 4 rfl) ?_
                refine lv_if_ne (pc := 93) (tgt := 105) hx hb dX9_range_93 (by decide) (fun h => ?_) (fun h => ?_)
                · replace hw := if_f h hw
                  refine lv_iload (pc := 105) hx hb dX9_range_105 (lv_at hl 0 rfl) ?_
                  refine lv_if_ne (pc := 107) (tgt := 115) hx hb dX9_range_107 (by decide) (fun h => ?_) (fun h => ?_)
                  · replace hw := if_f h hw
                    refine lv_iload_n (pc := 115) hx hb dX9_range_115 rfl (lv_at hl 4 rfl) ?_
                    refine lv_iconst (pc := 116) (v := (1 : Int32)) hx hb dX9_range_116 (by decide) ?_
                    refine lv_icmp_ne (pc := 117) (tgt := 129) hx hb dX9_range_117 (by decide) (fun h => ?_) (fun h => ?_)
                    · replace hw := if_f h hw
                      refine lv_aload_n (pc := 129) hx hb dX9_range_129 rfl (lv_at hl 1 rfl) ?_
                      refine gf_731 (pc := 130) C hP h0 dX9_range_130 ?_
                      refine lv_iload_n (pc := 133) hx hb dX9_range_133 rfl (lv_at hl 3 rfl) ?_
                      refine r_ialdK (pc := 134) (n := 60) (k := a2.toNatClampNeg) C hP (cl_29_15 hC h0) (fun _ _ _ _ => rfl) hw.1 rfl dX9_range_134 ?_
                      replace hw := hw.2
                      exact r_iret (pc := 135) C hP hS hw dX9_range_135
                    · replace hw := if_t h hw
                      refine lv_aload_n (pc := 120) hx hb dX9_range_120 rfl (lv_at hl 1 rfl) ?_
                      refine gf_730 (pc := 121) C hP h0 dX9_range_121 ?_
                      refine lv_iload_n (pc := 124) hx hb dX9_range_124 rfl (lv_at hl 3 rfl) ?_
                      refine r_ialdK (pc := 125) (n := 60) (k := a2.toNatClampNeg) C hP (cl_29_14 hC h0) (fun _ _ _ _ => rfl) hw.1 rfl dX9_range_125 ?_
                      replace hw := hw.2
                      refine lv_goto (pc := 126) (tgt := 135) hx hb dX9_range_126 (by decide) ?_
                      exact r_iret (pc := 135) C hP hS hw dX9_range_135
                  · replace hw := if_t h hw
                    refine lv_ldc (pc := 110) (own := RX9) (v := (-2000000 : Int32)) hx hb hown (hts _ mw_715) dX9_range_110 ?_
                    refine lv_goto (pc := 112) (tgt := 135) hx hb dX9_range_112 (by decide) ?_
                    exact r_iret (pc := 135) C hP hS hw dX9_range_135
                · replace hw := if_t h hw
                  refine lv_aload_n (pc := 96) hx hb dX9_range_96 rfl (lv_at hl 1 rfl) ?_
                  refine gf_729 (pc := 97) C hP h0 dX9_range_97 ?_
                  refine lv_iload_n (pc := 100) hx hb dX9_range_100 rfl (lv_at hl 3 rfl) ?_
                  refine r_ialdK (pc := 101) (n := 60) (k := a2.toNatClampNeg) C hP (cl_29_13 hC h0) (fun _ _ _ _ => rfl) hw.1 rfl dX9_range_101 ?_
                  replace hw := hw.2
                  refine lv_goto (pc := 102) (tgt := 135) hx hb dX9_range_102 (by decide) ?_
                  exact r_iret (pc := 135) C hP hS hw dX9_range_135
            · replace hw := if_t h hw
              refine lv_ldc (pc := 65) (own := RX9) (v := (-3000003 : Int32)) hx hb hown (hts _ mw_908) dX9_range_65 ?_
              exact r_iret (pc := 67) C hP hS hw dX9_range_67
        · replace hw := if_f h hw
          refine lv_ldc (pc := 45) (own := RX9) (v := (-3000005 : Int32)) hx hb hown (hts _ mw_907) dX9_range_45 ?_
          exact r_iret (pc := 47) C hP hS hw dX9_range_47
      · replace hw := if_t h hw
        refine lv_ldc (pc := 33) (own := RX9) (v := (-3000002 : Int32)) hx hb hown (hts _ mw_826) dX9_range_33 ?_
        exact r_iret (pc := 35) C hP hS hw dX9_range_35
  · replace hw := if_t h hw
    refine lv_ldc (pc := 7) (own := RX9) (v := (-3000001 : Int32)) hx hb hown (hts _ mw_821) dX9_range_7 ?_
    exact r_iret (pc := 9) C hP hS hw dX9_range_9
end
theorem k_X9_range (l : Launch) (G : GG) {I : ix → Prop} {ad : ix → Nat} (hC : clo I) {a1 : Int32} {a2 : Int32} {a3 : Int32} (h0 : I (29, 0, 0, 0)) {Q : Int32 → Mem → Prop} {M : Mem} (hw : w_X9_range a1 a2 a3 Q M) : Met l yX9_range (wW yX9_range cX9_range 5 (some .int)) rm_X9_range (va_Pc [.ref (ad (29, 0, 0, 0)), .int a1, .int a2, .int a3] (fun U => wd G I ad M U.heap ∧ wK G U)) (qI G I ad Q) 0 0 (fA I ad) := met_of (by decide +kernel) (Nat.le_of_ble_eq_true rfl) (fun p e s m below meth c C hP hS ls hl => j_X9_range_0 C hC h0 _ _ _ _ hw hP hS hl)
section
variable {p : Program} {l : Launch} {e : Env} {s : State} {m : MethodId} {args : Array Value} {below : List Frame} {meth : Method} {c : Code} 
variable  {G : GG} {I : ix → Prop} {ad : ix → Nat}
set_option maxHeartbeats 4000000 in
set_option maxRecDepth 100000 in
theorem j_X9_may_0 {a1 : Int32} {a2 : Int32} (C : cx p s m args meth c cX9_may 3 (some .int) RX9 G) (hC : clo I) (h0 : I (29, 0, 0, 0)) {Q : Int32 → Mem → Prop} : ∀ (M : Mem) (H : Heap) (locs : List Loc) (ls : Array Slot), w_X9_may a1 a2 Q M → wd G I ad M H → va_S (fA I ad) s.heap H locs → lv_has ls 3 [(0, .ref (ad (29, 0, 0, 0))), (1, .int a1), (2, .int a2)] → W p l e rm_X9_may s m args below meth c H locs 0 0 (MQ below (qI G I ad Q) args s 0 0 (fA I ad)) (F0 m 0 ls []) := by
  have hx := C.1
  have hb := C.2.1
  have hown := C.2.2.2.1
  have hts := C.2.2.2.2.1
  intro M H locs ls hw hP hS hl
  unfold w_X9_may at hw
  refine lv_iload_n (pc := 0) hx hb dX9_may_0 rfl (lv_at hl 1 rfl) ?_
  refine r_cSI (pc := 1) (rest := []) (As := [.int a1]) C hl.1 hP hS (k_X9_isBlock l G hC  hw) mw_776 mw_777 mw_65 mw_778 ⟨rfl, rfl⟩ hd_X9_isBlock rfl rfl ⟨Nat.le_of_ble_eq_true rfl, Nat.le_of_ble_eq_true rfl⟩ (Nat.le_of_ble_eq_true rfl) ⟨Nat.zero_le _, Nat.zero_le _⟩ dX9_may_1 (fun r1 M1 H locs hw hP hS => ?_)
  refine lv_if_ne (pc := 4) (tgt := 9) hx hb dX9_may_4 (by decide) (fun h => ?_) (fun h => ?_)
  · replace hw := if_f h hw
    refine lv_iload_n (pc := 9) hx hb dX9_may_9 rfl (lv_at hl 2 rfl) ?_
    refine lv_iconst (pc := 10) (v := (0 : Int32)) hx hb dX9_may_10 (by decide) ?_
    refine lv_aload_n (pc := 11) hx hb dX9_may_11 rfl (lv_at hl 0 rfl) ?_
    refine gf_720 (pc := 12) C hP h0 dX9_may_12 ?_
    refine lv_iconst (pc := 15) (v := (1 : Int32)) hx hb dX9_may_15 (by decide) ?_
    refine lv_isub (pc := 16) hx hb dX9_may_16 ?_
    refine r_cSI (pc := 17) (rest := []) (As := [.int a2, .int (0 : Int32), .int ((M1.1 (29, 0, 0, 0) 4) - (1 : Int32))]) C hl.1 hP hS (k_X9_in l G hC  hw) mw_779 mw_780 mw_65 mw_781 ⟨rfl, rfl⟩ hd_X9_in rfl rfl ⟨Nat.le_of_ble_eq_true rfl, Nat.le_of_ble_eq_true rfl⟩ (Nat.le_of_ble_eq_true rfl) ⟨Nat.zero_le _, Nat.zero_le _⟩ dX9_may_17 (fun r17 M17 H locs hw hP hS => ?_)
    refine lv_if_ne (pc := 20) (tgt := 26) hx hb dX9_may_20 (by decide) (fun h => ?_) (fun h => ?_)
    · replace hw := if_f h hw
      refine lv_aload_n (pc := 26) hx hb dX9_may_26 rfl (lv_at hl 0 rfl) ?_
      refine r_cVI (pc := 27) (rest := []) (As := []) C hl.1 hP hS (k_X9_read l G hC h0 hw) h0 rfl rfl mw_843 mw_845 mw_41 mw_65 mw_846 ⟨rfl, rfl⟩ hd_X9_read rfl rfl ⟨Nat.le_of_ble_eq_true rfl, Nat.le_of_ble_eq_true rfl⟩ (Nat.le_of_ble_eq_true rfl) ⟨Nat.zero_le _, Nat.zero_le _⟩ dX9_may_27 (fun r27 M27 H locs hw hP hS => ?_)
      refine lv_ldc (pc := 30) (own := RX9) (v := (-2000000 : Int32)) hx hb hown (hts _ mw_715) dX9_may_30 ?_
      refine lv_icmp_eq (pc := 32) (tgt := 38) hx hb dX9_may_32 (by decide) (fun h => ?_) (fun h => ?_)
      · replace hw := if_t h hw
        refine lv_aload_n (pc := 38) hx hb dX9_may_38 rfl (lv_at hl 0 rfl) ?_
        refine gf_717 (pc := 39) C hP h0 dX9_may_39 ?_
        refine lv_iload_n (pc := 42) hx hb dX9_may_42 rfl (lv_at hl 1 rfl) ?_
        refine r_ialdK (pc := 43) (n := 6) (k := a1.toNatClampNeg) C hP (cl_29_1 hC h0) (fun _ _ _ _ => rfl) hw.1 rfl dX9_may_43 ?_
        replace hw := hw.2
        refine lv_if_eq (pc := 44) (tgt := 58) hx hb dX9_may_44 (by decide) (fun h => ?_) (fun h => ?_)
        · replace hw := if_t h hw
          refine lv_bipush (pc := 58) (v := (-3 : Int32)) hx hb dX9_may_58 (by decide) ?_
          exact r_iret (pc := 60) C hP hS hw dX9_may_60
        · replace hw := if_f h hw
          refine lv_aload_n (pc := 47) hx hb dX9_may_47 rfl (lv_at hl 0 rfl) ?_
          refine gf_722 (pc := 48) C hP h0 dX9_may_48 ?_
          refine lv_iload_n (pc := 51) hx hb dX9_may_51 rfl (lv_at hl 2 rfl) ?_
          refine r_ialdK (pc := 52) (n := 60) (k := a2.toNatClampNeg) C hP (cl_29_6 hC h0) (fun _ _ _ _ => rfl) hw.1 rfl dX9_may_52 ?_
          replace hw := hw.2
          refine lv_bipush (pc := 53) (v := (10 : Int32)) hx hb dX9_may_53 (by decide) ?_
          refine lv_icmp_ge (pc := 55) (tgt := 61) hx hb dX9_may_55 (by decide) (fun h => ?_) (fun h => ?_)
          · replace hw := if_t h hw
            refine lv_aload_n (pc := 61) hx hb dX9_may_61 rfl (lv_at hl 0 rfl) ?_
            refine lv_iload_n (pc := 62) hx hb dX9_may_62 rfl (lv_at hl 1 rfl) ?_
            refine r_cVV (pc := 63) (rest := []) (As := [.int a1]) C hl.1 hP hS (k_X9_layBlock l G hC h0 hw) h0 rfl rfl mw_909 mw_911 mw_48 mw_65 mw_912 ⟨rfl, rfl⟩ hd_X9_layBlock rfl rfl ⟨Nat.le_of_ble_eq_true rfl, Nat.le_of_ble_eq_true rfl⟩ (Nat.le_of_ble_eq_true rfl) ⟨Nat.zero_le _, Nat.zero_le _⟩ dX9_may_63 (fun M63 H locs hw hP hS => ?_)
            refine lv_aload_n (pc := 66) hx hb dX9_may_66 rfl (lv_at hl 0 rfl) ?_
            refine gf_729 (pc := 67) C hP h0 dX9_may_67 ?_
            refine lv_iload_n (pc := 70) hx hb dX9_may_70 rfl (lv_at hl 2 rfl) ?_
            refine r_ialdK (pc := 71) (n := 60) (k := a2.toNatClampNeg) C hP (cl_29_13 hC h0) (fun _ _ _ _ => rfl) hw.1 rfl dX9_may_71 ?_
            replace hw := hw.2
            exact r_iret (pc := 72) C hP hS hw dX9_may_72
          · replace hw := if_f h hw
            refine lv_bipush (pc := 58) (v := (-3 : Int32)) hx hb dX9_may_58 (by decide) ?_
            exact r_iret (pc := 60) C hP hS hw dX9_may_60
      · replace hw := if_f h hw
        refine lv_bipush (pc := 35) (v := (-5 : Int32)) hx hb dX9_may_35 (by decide) ?_
        exact r_iret (pc := 37) C hP hS hw dX9_may_37
    · replace hw := if_t h hw
      refine lv_bipush (pc := 23) (v := (-2 : Int32)) hx hb dX9_may_23 (by decide) ?_
      exact r_iret (pc := 25) C hP hS hw dX9_may_25
  · replace hw := if_t h hw
    refine lv_iconst (pc := 7) (v := (-1 : Int32)) hx hb dX9_may_7 (by decide) ?_
    exact r_iret (pc := 8) C hP hS hw dX9_may_8
end
theorem k_X9_may (l : Launch) (G : GG) {I : ix → Prop} {ad : ix → Nat} (hC : clo I) {a1 : Int32} {a2 : Int32} (h0 : I (29, 0, 0, 0)) {Q : Int32 → Mem → Prop} {M : Mem} (hw : w_X9_may a1 a2 Q M) : Met l yX9_may (wW yX9_may cX9_may 3 (some .int)) rm_X9_may (va_Pc [.ref (ad (29, 0, 0, 0)), .int a1, .int a2] (fun U => wd G I ad M U.heap ∧ wK G U)) (qI G I ad Q) 0 0 (fA I ad) := met_of (by decide +kernel) (Nat.le_of_ble_eq_true rfl) (fun p e s m below meth c C hP hS ls hl => j_X9_may_0 C hC h0 _ _ _ _ hw hP hS hl)
section
variable {p : Program} {l : Launch} {e : Env} {s : State} {m : MethodId} {args : Array Value} {below : List Frame} {meth : Method} {c : Code} 
variable  {G : GG} {I : ix → Prop} {ad : ix → Nat}
set_option maxHeartbeats 4000000 in
set_option maxRecDepth 100000 in
theorem j_X9_onlyColumn_5 (C : cx p s m args meth c cX9_onlyColumn 4 (some .int) RX9 G) (hC : clo I) (h0 : I (29, 0, 0, 0)) {Q : Int32 → Mem → Prop} : ∀ (n : Nat), ∀ (x1 : Int32) (x2 : Int32) (M : Mem) (H : Heap) (locs : List Loc) (ls : Array Slot), w_X9_onlyColumn_5 Q n x1 x2 M → wd G I ad M H → va_S (fA I ad) s.heap H locs → lv_has ls 4 [(0, .ref (ad (29, 0, 0, 0))), (1, .int x1), (2, .int x2)] → W p l e rm_X9_onlyColumn s m args below meth c H locs 0 0 (MQ below (qI G I ad Q) args s 0 0 (fA I ad)) (F0 m 5 ls []) := by
  have hx := C.1
  have hb := C.2.1
  have hown := C.2.2.2.1
  have hts := C.2.2.2.2.1
  intro n
  induction n with
  | zero =>
    intro x1 x2 M H locs ls hw hP hS hl
    rw [w_X9_onlyColumn_5] at hw
    exact hw.elim
  | succ n ih =>
    intro x1 x2 M H locs ls hw hP hS hl
    rw [w_X9_onlyColumn_5] at hw
    refine lv_iload_n (pc := 5) hx hb dX9_onlyColumn_5 rfl (lv_at hl 2 rfl) ?_
    refine lv_aload_n (pc := 6) hx hb dX9_onlyColumn_6 rfl (lv_at hl 0 rfl) ?_
    refine gf_720 (pc := 7) C hP h0 dX9_onlyColumn_7 ?_
    refine lv_icmp_ge (pc := 10) (tgt := 91) hx hb dX9_onlyColumn_10 (by decide) (fun h => ?_) (fun h => ?_)
    · replace hw := if_t h hw
      refine lv_iload_n (pc := 91) hx hb dX9_onlyColumn_91 rfl (lv_at hl 1 rfl) ?_
      exact r_iret (pc := 92) C hP hS hw dX9_onlyColumn_92
    · replace hw := if_f h hw
      refine lv_aload_n (pc := 13) hx hb dX9_onlyColumn_13 rfl (lv_at hl 0 rfl) ?_
      refine gf_722 (pc := 14) C hP h0 dX9_onlyColumn_14 ?_
      refine lv_iload_n (pc := 17) hx hb dX9_onlyColumn_17 rfl (lv_at hl 2 rfl) ?_
      refine r_ialdK (pc := 18) (n := 60) (k := x2.toNatClampNeg) C hP (cl_29_6 hC h0) (fun _ _ _ _ => rfl) hw.1 rfl dX9_onlyColumn_18 ?_
      replace hw := hw.2
      refine lv_iconst (pc := 19) (v := (1 : Int32)) hx hb dX9_onlyColumn_19 (by decide) ?_
      refine lv_icmp_ne (pc := 20) (tgt := 35) hx hb dX9_onlyColumn_20 (by decide) (fun h => ?_) (fun h => ?_)
      · replace hw := if_f h hw
        refine lv_aload_n (pc := 35) hx hb dX9_onlyColumn_35 rfl (lv_at hl 0 rfl) ?_
        refine gf_722 (pc := 36) C hP h0 dX9_onlyColumn_36 ?_
        refine lv_iload_n (pc := 39) hx hb dX9_onlyColumn_39 rfl (lv_at hl 2 rfl) ?_
        refine r_ialdK (pc := 40) (n := 60) (k := x2.toNatClampNeg) C hP (cl_29_6 hC h0) (fun _ _ _ _ => rfl) hw.1 rfl dX9_onlyColumn_40 ?_
        replace hw := hw.2
        refine lv_bipush (pc := 41) (v := (15 : Int32)) hx hb dX9_onlyColumn_41 (by decide) ?_
        refine lv_icmp_ne (pc := 43) (tgt := 60) hx hb dX9_onlyColumn_43 (by decide) (fun h => ?_) (fun h => ?_)
        · replace hw := if_f h hw
          refine lv_ldc (pc := 60) (own := RX9) (v := (-2000000 : Int32)) hx hb hown (hts _ mw_715) dX9_onlyColumn_60 ?_
          refine lv_istore_n (pc := 62) (lv' := [(3, .int (-2000000 : Int32)), (0, .ref (ad (29, 0, 0, 0))), (1, .int x1), (2, .int x2)]) hx hb dX9_onlyColumn_62 rfl hl (by decide) rfl (fun ls hl => ?_)
          refine lv_iload_n (pc := 63) hx hb dX9_onlyColumn_63 rfl (lv_at hl 0 rfl) ?_
          refine lv_ldc (pc := 64) (own := RX9) (v := (-2000000 : Int32)) hx hb hown (hts _ mw_715) dX9_onlyColumn_64 ?_
          refine lv_icmp_eq (pc := 66) (tgt := 85) hx hb dX9_onlyColumn_66 (by decide) (fun h => ?_) (fun h => ?_)
          · replace hw := if_t h hw
            refine lv_iinc (pc := 85) (v := x2 + 1) (lv' := [(2, .int (x2 + 1)), (3, .int (-2000000 : Int32)), (0, .ref (ad (29, 0, 0, 0))), (1, .int x1)]) hx hb dX9_onlyColumn_85 hl (k := 3) rfl rfl (by decide) rfl (fun ls hl => ?_)
            refine lv_goto (pc := 88) (tgt := 5) hx hb dX9_onlyColumn_88 (by decide) ?_
            exact ih x1 (x2 + 1) M _ _ _ hw hP hS (lv_sub hl [2, 3, 0] rfl)
          · replace hw := if_f h hw
            refine lv_iload_n (pc := 69) hx hb dX9_onlyColumn_69 rfl (lv_at hl 2 rfl) ?_
            refine lv_ldc (pc := 70) (own := RX9) (v := (-2000000 : Int32)) hx hb hown (hts _ mw_715) dX9_onlyColumn_70 ?_
            refine lv_icmp_eq (pc := 72) (tgt := 83) hx hb dX9_onlyColumn_72 (by decide) (fun h => ?_) (fun h => ?_)
            · replace hw := if_t h hw
              refine lv_iload_n (pc := 83) hx hb dX9_onlyColumn_83 rfl (lv_at hl 0 rfl) ?_
              refine lv_istore_n (pc := 84) (lv' := [(1, .int (-2000000 : Int32)), (3, .int (-2000000 : Int32)), (0, .ref (ad (29, 0, 0, 0))), (2, .int x2)]) hx hb dX9_onlyColumn_84 rfl hl (by decide) rfl (fun ls hl => ?_)
              refine lv_iinc (pc := 85) (v := x2 + 1) (lv' := [(2, .int (x2 + 1)), (1, .int (-2000000 : Int32)), (3, .int (-2000000 : Int32)), (0, .ref (ad (29, 0, 0, 0)))]) hx hb dX9_onlyColumn_85 hl (k := 3) rfl rfl (by decide) rfl (fun ls hl => ?_)
              refine lv_goto (pc := 88) (tgt := 5) hx hb dX9_onlyColumn_88 (by decide) ?_
              exact ih (-2000000 : Int32) (x2 + 1) M _ _ _ hw hP hS (lv_sub hl [3, 1, 0] rfl)
            · replace hw := if_f h hw
              refine lv_iload_n (pc := 75) hx hb dX9_onlyColumn_75 rfl (lv_at hl 2 rfl) ?_
              refine lv_iload_n (pc := 76) hx hb dX9_onlyColumn_76 rfl (lv_at hl 0 rfl) ?_
              refine lv_icmp_eq (pc := 77) (tgt := 83) hx hb dX9_onlyColumn_77 (by decide) (fun h => ?_) (fun h => ?_)
              · replace hw := if_t h hw
                refine lv_iload_n (pc := 83) hx hb dX9_onlyColumn_83 rfl (lv_at hl 0 rfl) ?_
                refine lv_istore_n (pc := 84) (lv' := [(1, .int (-2000000 : Int32)), (3, .int (-2000000 : Int32)), (0, .ref (ad (29, 0, 0, 0))), (2, .int x2)]) hx hb dX9_onlyColumn_84 rfl hl (by decide) rfl (fun ls hl => ?_)
                refine lv_iinc (pc := 85) (v := x2 + 1) (lv' := [(2, .int (x2 + 1)), (1, .int (-2000000 : Int32)), (3, .int (-2000000 : Int32)), (0, .ref (ad (29, 0, 0, 0)))]) hx hb dX9_onlyColumn_85 hl (k := 3) rfl rfl (by decide) rfl (fun ls hl => ?_)
                refine lv_goto (pc := 88) (tgt := 5) hx hb dX9_onlyColumn_88 (by decide) ?_
                exact ih (-2000000 : Int32) (x2 + 1) M _ _ _ hw hP hS (lv_sub hl [3, 1, 0] rfl)
              · replace hw := if_f h hw
                refine lv_ldc (pc := 80) (own := RX9) (v := (-2000000 : Int32)) hx hb hown (hts _ mw_715) dX9_onlyColumn_80 ?_
                exact r_iret (pc := 82) C hP hS hw dX9_onlyColumn_82
        · replace hw := if_t h hw
          refine lv_aload_n (pc := 46) hx hb dX9_onlyColumn_46 rfl (lv_at hl 0 rfl) ?_
          refine gf_721 (pc := 47) C hP h0 dX9_onlyColumn_47 ?_
          refine lv_iload_n (pc := 50) hx hb dX9_onlyColumn_50 rfl (lv_at hl 2 rfl) ?_
          refine lv_iconst (pc := 51) (v := (1 : Int32)) hx hb dX9_onlyColumn_51 (by decide) ?_
          refine lv_iadd (pc := 52) hx hb dX9_onlyColumn_52 ?_
          refine r_ialdK (pc := 53) (n := 60) (k := (x2 + (1 : Int32)).toNatClampNeg) C hP (cl_29_5 hC h0) (fun _ _ _ _ => rfl) hw.1 rfl dX9_onlyColumn_53 ?_
          replace hw := hw.2
          refine lv_bipush (pc := 54) (v := (97 : Int32)) hx hb dX9_onlyColumn_54 (by decide) ?_
          refine lv_isub (pc := 56) hx hb dX9_onlyColumn_56 ?_
          refine lv_goto (pc := 57) (tgt := 62) hx hb dX9_onlyColumn_57 (by decide) ?_
          refine lv_topi (fun x3_62 ex3_62 => ?_)
          replace hw := hw x3_62 ex3_62
          refine lv_istore_n (pc := 62) (lv' := [(3, .int x3_62), (0, .ref (ad (29, 0, 0, 0))), (1, .int x1), (2, .int x2)]) hx hb dX9_onlyColumn_62 rfl hl (by decide) rfl (fun ls hl => ?_)
          refine lv_iload_n (pc := 63) hx hb dX9_onlyColumn_63 rfl (lv_at hl 0 rfl) ?_
          refine lv_ldc (pc := 64) (own := RX9) (v := (-2000000 : Int32)) hx hb hown (hts _ mw_715) dX9_onlyColumn_64 ?_
          refine lv_icmp_eq (pc := 66) (tgt := 85) hx hb dX9_onlyColumn_66 (by decide) (fun h => ?_) (fun h => ?_)
          · replace hw := if_t h hw
            refine lv_iinc (pc := 85) (v := x2 + 1) (lv' := [(2, .int (x2 + 1)), (3, .int x3_62), (0, .ref (ad (29, 0, 0, 0))), (1, .int x1)]) hx hb dX9_onlyColumn_85 hl (k := 3) rfl rfl (by decide) rfl (fun ls hl => ?_)
            refine lv_goto (pc := 88) (tgt := 5) hx hb dX9_onlyColumn_88 (by decide) ?_
            exact ih x1 (x2 + 1) M _ _ _ hw hP hS (lv_sub hl [2, 3, 0] rfl)
          · replace hw := if_f h hw
            refine lv_iload_n (pc := 69) hx hb dX9_onlyColumn_69 rfl (lv_at hl 2 rfl) ?_
            refine lv_ldc (pc := 70) (own := RX9) (v := (-2000000 : Int32)) hx hb hown (hts _ mw_715) dX9_onlyColumn_70 ?_
            refine lv_icmp_eq (pc := 72) (tgt := 83) hx hb dX9_onlyColumn_72 (by decide) (fun h => ?_) (fun h => ?_)
            · replace hw := if_t h hw
              refine lv_iload_n (pc := 83) hx hb dX9_onlyColumn_83 rfl (lv_at hl 0 rfl) ?_
              refine lv_istore_n (pc := 84) (lv' := [(1, .int x3_62), (3, .int x3_62), (0, .ref (ad (29, 0, 0, 0))), (2, .int x2)]) hx hb dX9_onlyColumn_84 rfl hl (by decide) rfl (fun ls hl => ?_)
              refine lv_iinc (pc := 85) (v := x2 + 1) (lv' := [(2, .int (x2 + 1)), (1, .int x3_62), (3, .int x3_62), (0, .ref (ad (29, 0, 0, 0)))]) hx hb dX9_onlyColumn_85 hl (k := 3) rfl rfl (by decide) rfl (fun ls hl => ?_)
              refine lv_goto (pc := 88) (tgt := 5) hx hb dX9_onlyColumn_88 (by decide) ?_
              exact ih x3_62 (x2 + 1) M _ _ _ hw hP hS (lv_sub hl [3, 1, 0] rfl)
            · replace hw := if_f h hw
              refine lv_iload_n (pc := 75) hx hb dX9_onlyColumn_75 rfl (lv_at hl 2 rfl) ?_
              refine lv_iload_n (pc := 76) hx hb dX9_onlyColumn_76 rfl (lv_at hl 0 rfl) ?_
              refine lv_icmp_eq (pc := 77) (tgt := 83) hx hb dX9_onlyColumn_77 (by decide) (fun h => ?_) (fun h => ?_)
              · replace hw := if_t h hw
                refine lv_iload_n (pc := 83) hx hb dX9_onlyColumn_83 rfl (lv_at hl 0 rfl) ?_
                refine lv_istore_n (pc := 84) (lv' := [(1, .int x3_62), (3, .int x3_62), (0, .ref (ad (29, 0, 0, 0))), (2, .int x2)]) hx hb dX9_onlyColumn_84 rfl hl (by decide) rfl (fun ls hl => ?_)
                refine lv_iinc (pc := 85) (v := x2 + 1) (lv' := [(2, .int (x2 + 1)), (1, .int x3_62), (3, .int x3_62), (0, .ref (ad (29, 0, 0, 0)))]) hx hb dX9_onlyColumn_85 hl (k := 3) rfl rfl (by decide) rfl (fun ls hl => ?_)
                refine lv_goto (pc := 88) (tgt := 5) hx hb dX9_onlyColumn_88 (by decide) ?_
                exact ih x3_62 (x2 + 1) M _ _ _ hw hP hS (lv_sub hl [3, 1, 0] rfl)
              · replace hw := if_f h hw
                refine lv_ldc (pc := 80) (own := RX9) (v := (-2000000 : Int32)) hx hb hown (hts _ mw_715) dX9_onlyColumn_80 ?_
                exact r_iret (pc := 82) C hP hS hw dX9_onlyColumn_82
      · replace hw := if_t h hw
        refine lv_aload_n (pc := 23) hx hb dX9_onlyColumn_23 rfl (lv_at hl 0 rfl) ?_
        refine gf_721 (pc := 24) C hP h0 dX9_onlyColumn_24 ?_
        refine lv_iload_n (pc := 27) hx hb dX9_onlyColumn_27 rfl (lv_at hl 2 rfl) ?_
        refine r_ialdK (pc := 28) (n := 60) (k := x2.toNatClampNeg) C hP (cl_29_5 hC h0) (fun _ _ _ _ => rfl) hw.1 rfl dX9_onlyColumn_28 ?_
        replace hw := hw.2
        refine lv_bipush (pc := 29) (v := (97 : Int32)) hx hb dX9_onlyColumn_29 (by decide) ?_
        refine lv_isub (pc := 31) hx hb dX9_onlyColumn_31 ?_
        refine lv_goto (pc := 32) (tgt := 62) hx hb dX9_onlyColumn_32 (by decide) ?_
        refine lv_topi (fun x3_62 ex3_62 => ?_)
        replace hw := hw x3_62 ex3_62
        refine lv_istore_n (pc := 62) (lv' := [(3, .int x3_62), (0, .ref (ad (29, 0, 0, 0))), (1, .int x1), (2, .int x2)]) hx hb dX9_onlyColumn_62 rfl hl (by decide) rfl (fun ls hl => ?_)
        refine lv_iload_n (pc := 63) hx hb dX9_onlyColumn_63 rfl (lv_at hl 0 rfl) ?_
        refine lv_ldc (pc := 64) (own := RX9) (v := (-2000000 : Int32)) hx hb hown (hts _ mw_715) dX9_onlyColumn_64 ?_
        refine lv_icmp_eq (pc := 66) (tgt := 85) hx hb dX9_onlyColumn_66 (by decide) (fun h => ?_) (fun h => ?_)
        · replace hw := if_t h hw
          refine lv_iinc (pc := 85) (v := x2 + 1) (lv' := [(2, .int (x2 + 1)), (3, .int x3_62), (0, .ref (ad (29, 0, 0, 0))), (1, .int x1)]) hx hb dX9_onlyColumn_85 hl (k := 3) rfl rfl (by decide) rfl (fun ls hl => ?_)
          refine lv_goto (pc := 88) (tgt := 5) hx hb dX9_onlyColumn_88 (by decide) ?_
          exact ih x1 (x2 + 1) M _ _ _ hw hP hS (lv_sub hl [2, 3, 0] rfl)
        · replace hw := if_f h hw
          refine lv_iload_n (pc := 69) hx hb dX9_onlyColumn_69 rfl (lv_at hl 2 rfl) ?_
          refine lv_ldc (pc := 70) (own := RX9) (v := (-2000000 : Int32)) hx hb hown (hts _ mw_715) dX9_onlyColumn_70 ?_
          refine lv_icmp_eq (pc := 72) (tgt := 83) hx hb dX9_onlyColumn_72 (by decide) (fun h => ?_) (fun h => ?_)
          · replace hw := if_t h hw
            refine lv_iload_n (pc := 83) hx hb dX9_onlyColumn_83 rfl (lv_at hl 0 rfl) ?_
            refine lv_istore_n (pc := 84) (lv' := [(1, .int x3_62), (3, .int x3_62), (0, .ref (ad (29, 0, 0, 0))), (2, .int x2)]) hx hb dX9_onlyColumn_84 rfl hl (by decide) rfl (fun ls hl => ?_)
            refine lv_iinc (pc := 85) (v := x2 + 1) (lv' := [(2, .int (x2 + 1)), (1, .int x3_62), (3, .int x3_62), (0, .ref (ad (29, 0, 0, 0)))]) hx hb dX9_onlyColumn_85 hl (k := 3) rfl rfl (by decide) rfl (fun ls hl => ?_)
            refine lv_goto (pc := 88) (tgt := 5) hx hb dX9_onlyColumn_88 (by decide) ?_
            exact ih x3_62 (x2 + 1) M _ _ _ hw hP hS (lv_sub hl [3, 1, 0] rfl)
          · replace hw := if_f h hw
            refine lv_iload_n (pc := 75) hx hb dX9_onlyColumn_75 rfl (lv_at hl 2 rfl) ?_
            refine lv_iload_n (pc := 76) hx hb dX9_onlyColumn_76 rfl (lv_at hl 0 rfl) ?_
            refine lv_icmp_eq (pc := 77) (tgt := 83) hx hb dX9_onlyColumn_77 (by decide) (fun h => ?_) (fun h => ?_)
            · replace hw := if_t h hw
              refine lv_iload_n (pc := 83) hx hb dX9_onlyColumn_83 rfl (lv_at hl 0 rfl) ?_
              refine lv_istore_n (pc := 84) (lv' := [(1, .int x3_62), (3, .int x3_62), (0, .ref (ad (29, 0, 0, 0))), (2, .int x2)]) hx hb dX9_onlyColumn_84 rfl hl (by decide) rfl (fun ls hl => ?_)
              refine lv_iinc (pc := 85) (v := x2 + 1) (lv' := [(2, .int (x2 + 1)), (1, .int x3_62), (3, .int x3_62), (0, .ref (ad (29, 0, 0, 0)))]) hx hb dX9_onlyColumn_85 hl (k := 3) rfl rfl (by decide) rfl (fun ls hl => ?_)
              refine lv_goto (pc := 88) (tgt := 5) hx hb dX9_onlyColumn_88 (by decide) ?_
              exact ih x3_62 (x2 + 1) M _ _ _ hw hP hS (lv_sub hl [3, 1, 0] rfl)
            · replace hw := if_f h hw
              refine lv_ldc (pc := 80) (own := RX9) (v := (-2000000 : Int32)) hx hb hown (hts _ mw_715) dX9_onlyColumn_80 ?_
              exact r_iret (pc := 82) C hP hS hw dX9_onlyColumn_82
set_option maxHeartbeats 4000000 in
set_option maxRecDepth 100000 in
theorem j_X9_onlyColumn_0 (C : cx p s m args meth c cX9_onlyColumn 4 (some .int) RX9 G) (hC : clo I) (h0 : I (29, 0, 0, 0)) {Q : Int32 → Mem → Prop} : ∀ (M : Mem) (H : Heap) (locs : List Loc) (ls : Array Slot), w_X9_onlyColumn Q M → wd G I ad M H → va_S (fA I ad) s.heap H locs → lv_has ls 4 [(0, .ref (ad (29, 0, 0, 0)))] → W p l e rm_X9_onlyColumn s m args below meth c H locs 0 0 (MQ below (qI G I ad Q) args s 0 0 (fA I ad)) (F0 m 0 ls []) := by
  have hx := C.1
  have hb := C.2.1
  have hown := C.2.2.2.1
  have hts := C.2.2.2.2.1
  intro M H locs ls hw hP hS hl
  unfold w_X9_onlyColumn at hw
  refine lv_ldc (pc := 0) (own := RX9) (v := (-2000000 : Int32)) hx hb hown (hts _ mw_715) dX9_onlyColumn_0 ?_
  refine lv_istore_n (pc := 2) (lv' := [(1, .int (-2000000 : Int32)), (0, .ref (ad (29, 0, 0, 0)))]) hx hb dX9_onlyColumn_2 rfl hl (by decide) rfl (fun ls hl => ?_)
  refine lv_iconst (pc := 3) (v := (0 : Int32)) hx hb dX9_onlyColumn_3 (by decide) ?_
  refine lv_istore_n (pc := 4) (lv' := [(2, .int (0 : Int32)), (1, .int (-2000000 : Int32)), (0, .ref (ad (29, 0, 0, 0)))]) hx hb dX9_onlyColumn_4 rfl hl (by decide) rfl (fun ls hl => ?_)
  obtain ⟨n0, hw⟩ := hw
  exact j_X9_onlyColumn_5 C hC h0 n0 (-2000000 : Int32) (0 : Int32) M _ _ _ hw hP hS (lv_sub hl [2, 1, 0] rfl)
end
theorem k_X9_onlyColumn (l : Launch) (G : GG) {I : ix → Prop} {ad : ix → Nat} (hC : clo I) (h0 : I (29, 0, 0, 0)) {Q : Int32 → Mem → Prop} {M : Mem} (hw : w_X9_onlyColumn Q M) : Met l yX9_onlyColumn (wW yX9_onlyColumn cX9_onlyColumn 4 (some .int)) rm_X9_onlyColumn (va_Pc [.ref (ad (29, 0, 0, 0))] (fun U => wd G I ad M U.heap ∧ wK G U)) (qI G I ad Q) 0 0 (fA I ad) := met_of (by decide +kernel) (Nat.le_of_ble_eq_true rfl) (fun p e s m below meth c C hP hS ls hl => j_X9_onlyColumn_0 C hC h0 _ _ _ _ hw hP hS hl)
section
variable {p : Program} {l : Launch} {e : Env} {s : State} {m : MethodId} {args : Array Value} {below : List Frame} {meth : Method} {c : Code} 
variable  {G : GG} {I : ix → Prop} {ad : ix → Nat}
set_option maxHeartbeats 4000000 in
set_option maxRecDepth 100000 in
theorem j_X9_mayOf_127 {a1 : Int32} (C : cx p s m args meth c cX9_mayOf 7 (some .int) RX9 G) (hC : clo I) (h0 : I (29, 0, 0, 0)) {Q : Int32 → Mem → Prop} {B60 : Int32 → Int32 → Int32 → Int32 → Mem → Prop} (hB60 : ∀ (x2 : Int32) (x3 : Int32) (x4 : Int32) (x5 : Int32) (M : Mem) (H : Heap) (locs : List Loc) (ls : Array Slot), B60 x2 x3 x4 x5 M → wd G I ad M H → va_S (fA I ad) s.heap H locs → lv_has ls 7 [(0, .ref (ad (29, 0, 0, 0))), (2, .int x2), (3, .int x3), (4, .int x4), (5, .int x5)] → W p l e rm_X9_mayOf s m args below meth c H locs 0 0 (MQ below (qI G I ad Q) args s 0 0 (fA I ad)) (F0 m 60 ls [])) : ∀ (x2 : Int32) (x3 : Int32) (x4 : Int32) (x5 : Int32) (x6 : Int32) (M : Mem) (H : Heap) (locs : List Loc) (ls : Array Slot), w_X9_mayOf_127 a1 Q B60 x2 x3 x4 x5 x6 M → wd G I ad M H → va_S (fA I ad) s.heap H locs → lv_has ls 7 [(0, .ref (ad (29, 0, 0, 0))), (2, .int x2), (3, .int x3), (4, .int x4), (5, .int x5), (6, .int x6)] → W p l e rm_X9_mayOf s m args below meth c H locs 0 0 (MQ below (qI G I ad Q) args s 0 0 (fA I ad)) (F0 m 127 ls []) := by
  have hx := C.1
  have hb := C.2.1
  have hown := C.2.2.2.1
  have hts := C.2.2.2.2.1
  intro x2 x3 x4 x5 x6 M H locs ls hw hP hS hl
  unfold w_X9_mayOf_127 at hw
  refine lv_aload_n (pc := 127) hx hb dX9_mayOf_127 rfl (lv_at hl 0 rfl) ?_
  refine gf_728 (pc := 128) C hP h0 dX9_mayOf_128 ?_
  refine lv_iload_n (pc := 131) hx hb dX9_mayOf_131 rfl (lv_at hl 1 rfl) ?_
  refine lv_iload (pc := 132) hx hb dX9_mayOf_132 (lv_at hl 5 rfl) ?_
  refine lv_if_eq (pc := 134) (tgt := 143) hx hb dX9_mayOf_134 (by decide) (fun h => ?_) (fun h => ?_)
  · replace hw := if_t h hw
    refine lv_aload_n (pc := 143) hx hb dX9_mayOf_143 rfl (lv_at hl 0 rfl) ?_
    refine gf_718 (pc := 144) C hP h0 dX9_mayOf_144 ?_
    refine lv_iload_n (pc := 147) hx hb dX9_mayOf_147 rfl (lv_at hl 2 rfl) ?_
    refine lv_iconst (pc := 148) (v := (4 : Int32)) hx hb dX9_mayOf_148 (by decide) ?_
    refine lv_iadd (pc := 149) hx hb dX9_mayOf_149 ?_
    refine lv_iload (pc := 150) hx hb dX9_mayOf_150 (lv_at hl 4 rfl) ?_
    refine lv_iadd (pc := 152) hx hb dX9_mayOf_152 ?_
    refine r_ialdK (pc := 153) (n := 288) (k := ((x3 + (4 : Int32)) + x5).toNatClampNeg) C hP (cl_29_2 hC h0) (fun _ _ _ _ => rfl) hw.1 rfl dX9_mayOf_153 ?_
    replace hw := hw.2
    refine r_iastK (pc := 154) (n := 4) (k := x2.toNatClampNeg) C hP hS (cl_29_12 hC h0) (fun _ _ _ _ => rfl) hw.1 rfl dX9_mayOf_154 (fun H locs hP hS => ?_)
    replace hw := hw.2
    refine lv_aload_n (pc := 155) hx hb dX9_mayOf_155 rfl (lv_at hl 0 rfl) ?_
    refine r_cVV (pc := 156) (rest := []) (As := []) C hl.1 hP hS (k_X9_layRow l G hC h0 hw) h0 rfl rfl mw_864 mw_866 mw_43 mw_65 mw_867 ⟨rfl, rfl⟩ hd_X9_layRow rfl rfl ⟨Nat.le_of_ble_eq_true rfl, Nat.le_of_ble_eq_true rfl⟩ (Nat.le_of_ble_eq_true rfl) ⟨Nat.zero_le _, Nat.zero_le _⟩ dX9_mayOf_156 (fun M156 H locs hw hP hS => ?_)
    refine lv_iload (pc := 159) hx hb dX9_mayOf_159 (lv_at hl 3 rfl) ?_
    refine lv_aload_n (pc := 161) hx hb dX9_mayOf_161 rfl (lv_at hl 0 rfl) ?_
    refine gf_727 (pc := 162) C hP h0 dX9_mayOf_162 ?_
    refine lv_iconst (pc := 165) (v := (0 : Int32)) hx hb dX9_mayOf_165 (by decide) ?_
    refine r_ialdK (pc := 166) (n := 60) (k := 0) C hP (cl_29_11 hC h0) (fun _ _ _ _ => rfl) (vpc (by decide)) (by decide) dX9_mayOf_166 ?_
    refine r_cSI (pc := 167) (rest := [.int x4]) (As := [.int (M156.1 (40, 0, 0, 0) 0)]) C hl.1 hP hS (k_X9_bit l G hC  hw) mw_921 mw_922 mw_65 mw_923 ⟨rfl, rfl⟩ hd_X9_bit rfl rfl ⟨Nat.le_of_ble_eq_true rfl, Nat.le_of_ble_eq_true rfl⟩ (Nat.le_of_ble_eq_true rfl) ⟨Nat.zero_le _, Nat.zero_le _⟩ dX9_mayOf_167 (fun r167 M167 H locs hw hP hS => ?_)
    refine lv_ior (pc := 170) hx hb dX9_mayOf_170 ?_
    refine lv_topi (fun x4_171 ex4_171 => ?_)
    replace hw := hw x4_171 ex4_171
    refine lv_istore (pc := 171) (lv' := [(4, .int x4_171), (0, .ref (ad (29, 0, 0, 0))), (2, .int x2), (3, .int x3), (5, .int x5), (6, .int x6)]) hx hb dX9_mayOf_171 hl (by decide) rfl (fun ls hl => ?_)
    refine lv_iinc (pc := 173) (v := x5 + 1) (lv' := [(5, .int (x5 + 1)), (4, .int x4_171), (0, .ref (ad (29, 0, 0, 0))), (2, .int x2), (3, .int x3), (6, .int x6)]) hx hb dX9_mayOf_173 hl (k := 4) rfl rfl (by decide) rfl (fun ls hl => ?_)
    refine lv_goto (pc := 176) (tgt := 60) hx hb dX9_mayOf_176 (by decide) ?_
    exact hB60 x2 x3 x4_171 (x5 + 1) M167 _ _ _ hw hP hS (lv_sub hl [2, 3, 4, 1, 0] rfl)
  · replace hw := if_f h hw
    refine lv_sipush (pc := 137) (v := (1000 : Int32)) hx hb dX9_mayOf_137 (by decide) ?_
    refine lv_goto (pc := 140) (tgt := 154) hx hb dX9_mayOf_140 (by decide) ?_
    refine r_iastK (pc := 154) (n := 4) (k := x2.toNatClampNeg) C hP hS (cl_29_12 hC h0) (fun _ _ _ _ => rfl) hw.1 rfl dX9_mayOf_154 (fun H locs hP hS => ?_)
    replace hw := hw.2
    refine lv_aload_n (pc := 155) hx hb dX9_mayOf_155 rfl (lv_at hl 0 rfl) ?_
    refine r_cVV (pc := 156) (rest := []) (As := []) C hl.1 hP hS (k_X9_layRow l G hC h0 hw) h0 rfl rfl mw_864 mw_866 mw_43 mw_65 mw_867 ⟨rfl, rfl⟩ hd_X9_layRow rfl rfl ⟨Nat.le_of_ble_eq_true rfl, Nat.le_of_ble_eq_true rfl⟩ (Nat.le_of_ble_eq_true rfl) ⟨Nat.zero_le _, Nat.zero_le _⟩ dX9_mayOf_156 (fun M156 H locs hw hP hS => ?_)
    refine lv_iload (pc := 159) hx hb dX9_mayOf_159 (lv_at hl 3 rfl) ?_
    refine lv_aload_n (pc := 161) hx hb dX9_mayOf_161 rfl (lv_at hl 0 rfl) ?_
    refine gf_727 (pc := 162) C hP h0 dX9_mayOf_162 ?_
    refine lv_iconst (pc := 165) (v := (0 : Int32)) hx hb dX9_mayOf_165 (by decide) ?_
    refine r_ialdK (pc := 166) (n := 60) (k := 0) C hP (cl_29_11 hC h0) (fun _ _ _ _ => rfl) (vpc (by decide)) (by decide) dX9_mayOf_166 ?_
    refine r_cSI (pc := 167) (rest := [.int x4]) (As := [.int (M156.1 (40, 0, 0, 0) 0)]) C hl.1 hP hS (k_X9_bit l G hC  hw) mw_921 mw_922 mw_65 mw_923 ⟨rfl, rfl⟩ hd_X9_bit rfl rfl ⟨Nat.le_of_ble_eq_true rfl, Nat.le_of_ble_eq_true rfl⟩ (Nat.le_of_ble_eq_true rfl) ⟨Nat.zero_le _, Nat.zero_le _⟩ dX9_mayOf_167 (fun r167 M167 H locs hw hP hS => ?_)
    refine lv_ior (pc := 170) hx hb dX9_mayOf_170 ?_
    refine lv_topi (fun x4_171 ex4_171 => ?_)
    replace hw := hw x4_171 ex4_171
    refine lv_istore (pc := 171) (lv' := [(4, .int x4_171), (0, .ref (ad (29, 0, 0, 0))), (2, .int x2), (3, .int x3), (5, .int x5), (6, .int x6)]) hx hb dX9_mayOf_171 hl (by decide) rfl (fun ls hl => ?_)
    refine lv_iinc (pc := 173) (v := x5 + 1) (lv' := [(5, .int (x5 + 1)), (4, .int x4_171), (0, .ref (ad (29, 0, 0, 0))), (2, .int x2), (3, .int x3), (6, .int x6)]) hx hb dX9_mayOf_173 hl (k := 4) rfl rfl (by decide) rfl (fun ls hl => ?_)
    refine lv_goto (pc := 176) (tgt := 60) hx hb dX9_mayOf_176 (by decide) ?_
    exact hB60 x2 x3 x4_171 (x5 + 1) M167 _ _ _ hw hP hS (lv_sub hl [2, 3, 4, 1, 0] rfl)
set_option maxHeartbeats 4000000 in
set_option maxRecDepth 100000 in
theorem j_X9_mayOf_91 {a1 : Int32} (C : cx p s m args meth c cX9_mayOf 7 (some .int) RX9 G) (hC : clo I) (h0 : I (29, 0, 0, 0)) {Q : Int32 → Mem → Prop} {B60 : Int32 → Int32 → Int32 → Int32 → Mem → Prop} (hB60 : ∀ (x2 : Int32) (x3 : Int32) (x4 : Int32) (x5 : Int32) (M : Mem) (H : Heap) (locs : List Loc) (ls : Array Slot), B60 x2 x3 x4 x5 M → wd G I ad M H → va_S (fA I ad) s.heap H locs → lv_has ls 7 [(0, .ref (ad (29, 0, 0, 0))), (2, .int x2), (3, .int x3), (4, .int x4), (5, .int x5)] → W p l e rm_X9_mayOf s m args below meth c H locs 0 0 (MQ below (qI G I ad Q) args s 0 0 (fA I ad)) (F0 m 60 ls [])) : ∀ (x2 : Int32) (x3 : Int32) (x4 : Int32) (x5 : Int32) (t0 : Int32) (M : Mem) (H : Heap) (locs : List Loc) (ls : Array Slot), w_X9_mayOf_91 a1 Q B60 x2 x3 x4 x5 t0 M → wd G I ad M H → va_S (fA I ad) s.heap H locs → lv_has ls 7 [(0, .ref (ad (29, 0, 0, 0))), (2, .int x2), (3, .int x3), (4, .int x4), (5, .int x5)] → W p l e rm_X9_mayOf s m args below meth c H locs 0 0 (MQ below (qI G I ad Q) args s 0 0 (fA I ad)) (F0 m 91 ls [.int t0]) := by
  have hx := C.1
  have hb := C.2.1
  have hown := C.2.2.2.1
  have hts := C.2.2.2.2.1
  intro x2 x3 x4 x5 t0 M H locs ls hw hP hS hl
  unfold w_X9_mayOf_91 at hw
  refine lv_istore (pc := 91) (lv' := [(6, .int t0), (0, .ref (ad (29, 0, 0, 0))), (2, .int x2), (3, .int x3), (4, .int x4), (5, .int x5)]) hx hb dX9_mayOf_91 hl (by decide) rfl (fun ls hl => ?_)
  refine lv_iload (pc := 93) hx hb dX9_mayOf_93 (lv_at hl 0 rfl) ?_
  refine lv_if_eq (pc := 95) (tgt := 112) hx hb dX9_mayOf_95 (by decide) (fun h => ?_) (fun h => ?_)
  · replace hw := if_t h hw
    refine lv_aload_n (pc := 112) hx hb dX9_mayOf_112 rfl (lv_at hl 1 rfl) ?_
    refine gf_718 (pc := 113) C hP h0 dX9_mayOf_113 ?_
    refine lv_iload_n (pc := 116) hx hb dX9_mayOf_116 rfl (lv_at hl 3 rfl) ?_
    refine lv_bipush (pc := 117) (v := (8 : Int32)) hx hb dX9_mayOf_117 (by decide) ?_
    refine lv_iadd (pc := 119) hx hb dX9_mayOf_119 ?_
    refine lv_iload (pc := 120) hx hb dX9_mayOf_120 (lv_at hl 5 rfl) ?_
    refine lv_iadd (pc := 122) hx hb dX9_mayOf_122 ?_
    refine r_ialdK (pc := 123) (n := 288) (k := ((x3 + (8 : Int32)) + x5).toNatClampNeg) C hP (cl_29_2 hC h0) (fun _ _ _ _ => rfl) hw.1 rfl dX9_mayOf_123 ?_
    replace hw := hw.2
    refine lv_if_le (pc := 124) (tgt := 173) hx hb dX9_mayOf_124 (by decide) (fun h => ?_) (fun h => ?_)
    · replace hw := if_t h hw
      refine lv_iinc (pc := 173) (v := x5 + 1) (lv' := [(5, .int (x5 + 1)), (6, .int t0), (0, .ref (ad (29, 0, 0, 0))), (2, .int x2), (3, .int x3), (4, .int x4)]) hx hb dX9_mayOf_173 hl (k := 5) rfl rfl (by decide) rfl (fun ls hl => ?_)
      refine lv_goto (pc := 176) (tgt := 60) hx hb dX9_mayOf_176 (by decide) ?_
      exact hB60 x2 x3 x4 (x5 + 1) M _ _ _ hw hP hS (lv_sub hl [2, 3, 4, 5, 0] rfl)
    · replace hw := if_f h hw
      exact j_X9_mayOf_127 C hC h0 hB60 x2 x3 x4 x5 t0 M _ _ _ hw hP hS (lv_sub hl [1, 2, 3, 4, 5, 0] rfl)
  · replace hw := if_f h hw
    refine lv_aload_n (pc := 98) hx hb dX9_mayOf_98 rfl (lv_at hl 1 rfl) ?_
    refine gf_718 (pc := 99) C hP h0 dX9_mayOf_99 ?_
    refine lv_iload_n (pc := 102) hx hb dX9_mayOf_102 rfl (lv_at hl 3 rfl) ?_
    refine lv_iconst (pc := 103) (v := (2 : Int32)) hx hb dX9_mayOf_103 (by decide) ?_
    refine lv_iadd (pc := 104) hx hb dX9_mayOf_104 ?_
    refine r_ialdK (pc := 105) (n := 288) (k := (x3 + (2 : Int32)).toNatClampNeg) C hP (cl_29_2 hC h0) (fun _ _ _ _ => rfl) hw.1 rfl dX9_mayOf_105 ?_
    replace hw := hw.2
    refine lv_if_le (pc := 106) (tgt := 173) hx hb dX9_mayOf_106 (by decide) (fun h => ?_) (fun h => ?_)
    · replace hw := if_t h hw
      refine lv_iinc (pc := 173) (v := x5 + 1) (lv' := [(5, .int (x5 + 1)), (6, .int t0), (0, .ref (ad (29, 0, 0, 0))), (2, .int x2), (3, .int x3), (4, .int x4)]) hx hb dX9_mayOf_173 hl (k := 5) rfl rfl (by decide) rfl (fun ls hl => ?_)
      refine lv_goto (pc := 176) (tgt := 60) hx hb dX9_mayOf_176 (by decide) ?_
      exact hB60 x2 x3 x4 (x5 + 1) M _ _ _ hw hP hS (lv_sub hl [2, 3, 4, 5, 0] rfl)
    · replace hw := if_f h hw
      refine lv_goto (pc := 109) (tgt := 127) hx hb dX9_mayOf_109 (by decide) ?_
      exact j_X9_mayOf_127 C hC h0 hB60 x2 x3 x4 x5 t0 M _ _ _ hw hP hS (lv_sub hl [1, 2, 3, 4, 5, 0] rfl)
set_option maxHeartbeats 4000000 in
set_option maxRecDepth 100000 in
theorem j_X9_mayOf_60 {a1 : Int32} (C : cx p s m args meth c cX9_mayOf 7 (some .int) RX9 G) (hC : clo I) (h0 : I (29, 0, 0, 0)) {Q : Int32 → Mem → Prop} : ∀ (n : Nat), ∀ (x2 : Int32) (x3 : Int32) (x4 : Int32) (x5 : Int32) (M : Mem) (H : Heap) (locs : List Loc) (ls : Array Slot), w_X9_mayOf_60 a1 Q n x2 x3 x4 x5 M → wd G I ad M H → va_S (fA I ad) s.heap H locs → lv_has ls 7 [(0, .ref (ad (29, 0, 0, 0))), (2, .int x2), (3, .int x3), (4, .int x4), (5, .int x5)] → W p l e rm_X9_mayOf s m args below meth c H locs 0 0 (MQ below (qI G I ad Q) args s 0 0 (fA I ad)) (F0 m 60 ls []) := by
  have hx := C.1
  have hb := C.2.1
  have hown := C.2.2.2.1
  have hts := C.2.2.2.2.1
  intro n
  induction n with
  | zero =>
    intro x2 x3 x4 x5 M H locs ls hw hP hS hl
    rw [w_X9_mayOf_60] at hw
    exact hw.elim
  | succ n ih =>
    intro x2 x3 x4 x5 M H locs ls hw hP hS hl
    rw [w_X9_mayOf_60] at hw
    refine lv_iload (pc := 60) hx hb dX9_mayOf_60 (lv_at hl 4 rfl) ?_
    refine lv_aload_n (pc := 62) hx hb dX9_mayOf_62 rfl (lv_at hl 0 rfl) ?_
    refine gf_718 (pc := 63) C hP h0 dX9_mayOf_63 ?_
    refine lv_iload_n (pc := 66) hx hb dX9_mayOf_66 rfl (lv_at hl 2 rfl) ?_
    refine lv_iconst (pc := 67) (v := (3 : Int32)) hx hb dX9_mayOf_67 (by decide) ?_
    refine lv_iadd (pc := 68) hx hb dX9_mayOf_68 ?_
    refine r_ialdK (pc := 69) (n := 288) (k := (x3 + (3 : Int32)).toNatClampNeg) C hP (cl_29_2 hC h0) (fun _ _ _ _ => rfl) hw.1 rfl dX9_mayOf_69 ?_
    replace hw := hw.2
    refine lv_icmp_gt (pc := 70) (tgt := 179) hx hb dX9_mayOf_70 (by decide) (fun h => ?_) (fun h => ?_)
    · replace hw := if_t h hw
      refine lv_iload (pc := 179) hx hb dX9_mayOf_179 (lv_at hl 3 rfl) ?_
      exact r_iret (pc := 181) C hP hS hw dX9_mayOf_181
    · replace hw := if_f h hw
      refine lv_iload (pc := 73) hx hb dX9_mayOf_73 (lv_at hl 4 rfl) ?_
      refine lv_aload_n (pc := 75) hx hb dX9_mayOf_75 rfl (lv_at hl 0 rfl) ?_
      refine gf_718 (pc := 76) C hP h0 dX9_mayOf_76 ?_
      refine lv_iload_n (pc := 79) hx hb dX9_mayOf_79 rfl (lv_at hl 2 rfl) ?_
      refine lv_iconst (pc := 80) (v := (3 : Int32)) hx hb dX9_mayOf_80 (by decide) ?_
      refine lv_iadd (pc := 81) hx hb dX9_mayOf_81 ?_
      refine r_ialdK (pc := 82) (n := 288) (k := (x3 + (3 : Int32)).toNatClampNeg) C hP (cl_29_2 hC h0) (fun _ _ _ _ => rfl) hw.1 rfl dX9_mayOf_82 ?_
      replace hw := hw.2
      refine lv_icmp_ne (pc := 83) (tgt := 90) hx hb dX9_mayOf_83 (by decide) (fun h => ?_) (fun h => ?_)
      · replace hw := if_f h hw
        refine lv_iconst (pc := 90) (v := (0 : Int32)) hx hb dX9_mayOf_90 (by decide) ?_
        exact j_X9_mayOf_91 C hC h0 ih x2 x3 x4 x5 (0 : Int32) M _ _ _ hw hP hS (lv_sub hl [0, 1, 2, 3, 4] rfl)
      · replace hw := if_t h hw
        refine lv_iconst (pc := 86) (v := (1 : Int32)) hx hb dX9_mayOf_86 (by decide) ?_
        refine lv_goto (pc := 87) (tgt := 91) hx hb dX9_mayOf_87 (by decide) ?_
        exact j_X9_mayOf_91 C hC h0 ih x2 x3 x4 x5 (1 : Int32) M _ _ _ hw hP hS (lv_sub hl [0, 1, 2, 3, 4] rfl)
set_option maxHeartbeats 4000000 in
set_option maxRecDepth 100000 in
theorem j_X9_mayOf_0 {a1 : Int32} (C : cx p s m args meth c cX9_mayOf 7 (some .int) RX9 G) (hC : clo I) (h0 : I (29, 0, 0, 0)) {Q : Int32 → Mem → Prop} : ∀ (M : Mem) (H : Heap) (locs : List Loc) (ls : Array Slot), w_X9_mayOf a1 Q M → wd G I ad M H → va_S (fA I ad) s.heap H locs → lv_has ls 7 [(0, .ref (ad (29, 0, 0, 0))), (1, .int a1)] → W p l e rm_X9_mayOf s m args below meth c H locs 0 0 (MQ below (qI G I ad Q) args s 0 0 (fA I ad)) (F0 m 0 ls []) := by
  have hx := C.1
  have hb := C.2.1
  have hown := C.2.2.2.1
  have hts := C.2.2.2.2.1
  intro M H locs ls hw hP hS hl
  unfold w_X9_mayOf at hw
  refine lv_aload_n (pc := 0) hx hb dX9_mayOf_0 rfl (lv_at hl 0 rfl) ?_
  refine gf_717 (pc := 1) C hP h0 dX9_mayOf_1 ?_
  refine lv_iload_n (pc := 4) hx hb dX9_mayOf_4 rfl (lv_at hl 1 rfl) ?_
  refine r_ialdK (pc := 5) (n := 6) (k := a1.toNatClampNeg) C hP (cl_29_1 hC h0) (fun _ _ _ _ => rfl) hw.1 rfl dX9_mayOf_5 ?_
  replace hw := hw.2
  refine lv_if_ne (pc := 6) (tgt := 11) hx hb dX9_mayOf_6 (by decide) (fun h => ?_) (fun h => ?_)
  · replace hw := if_f h hw
    refine lv_aload_n (pc := 11) hx hb dX9_mayOf_11 rfl (lv_at hl 0 rfl) ?_
    refine r_cVI (pc := 12) (rest := []) (As := []) C hl.1 hP hS (k_X9_onlyColumn l G hC h0 hw) h0 rfl rfl mw_940 mw_942 mw_53 mw_65 mw_943 ⟨rfl, rfl⟩ hd_X9_onlyColumn rfl rfl ⟨Nat.le_of_ble_eq_true rfl, Nat.le_of_ble_eq_true rfl⟩ (Nat.le_of_ble_eq_true rfl) ⟨Nat.zero_le _, Nat.zero_le _⟩ dX9_mayOf_12 (fun r12 M12 H locs hw hP hS => ?_)
    refine lv_istore_n (pc := 15) (lv' := [(2, .int r12), (0, .ref (ad (29, 0, 0, 0))), (1, .int a1)]) hx hb dX9_mayOf_15 rfl hl (by decide) rfl (fun ls hl => ?_)
    refine lv_bipush (pc := 16) (v := (12 : Int32)) hx hb dX9_mayOf_16 (by decide) ?_
    refine lv_iconst (pc := 18) (v := (4 : Int32)) hx hb dX9_mayOf_18 (by decide) ?_
    refine lv_iload_n (pc := 19) hx hb dX9_mayOf_19 rfl (lv_at hl 2 rfl) ?_
    refine lv_imul (pc := 20) hx hb dX9_mayOf_20 ?_
    refine lv_iload_n (pc := 21) hx hb dX9_mayOf_21 rfl (lv_at hl 0 rfl) ?_
    refine lv_iadd (pc := 22) hx hb dX9_mayOf_22 ?_
    refine lv_imul (pc := 23) hx hb dX9_mayOf_23 ?_
    refine lv_topi (fun x3_24 ex3_24 => ?_)
    replace hw := hw x3_24 ex3_24
    refine lv_istore_n (pc := 24) (lv' := [(3, .int x3_24), (2, .int r12), (0, .ref (ad (29, 0, 0, 0))), (1, .int a1)]) hx hb dX9_mayOf_24 rfl hl (by decide) rfl (fun ls hl => ?_)
    refine lv_iload_n (pc := 25) hx hb dX9_mayOf_25 rfl (lv_at hl 1 rfl) ?_
    refine lv_ldc (pc := 26) (own := RX9) (v := (-2000000 : Int32)) hx hb hown (hts _ mw_715) dX9_mayOf_26 ?_
    refine lv_icmp_eq (pc := 28) (tgt := 42) hx hb dX9_mayOf_28 (by decide) (fun h => ?_) (fun h => ?_)
    · replace hw := if_t h hw
      refine lv_aload_n (pc := 42) hx hb dX9_mayOf_42 rfl (lv_at hl 2 rfl) ?_
      refine lv_iload_n (pc := 43) hx hb dX9_mayOf_43 rfl (lv_at hl 3 rfl) ?_
      refine r_cVV (pc := 44) (rest := []) (As := [.int a1]) C hl.1 hP hS (k_X9_layBlock l G hC h0 hw) h0 rfl rfl mw_909 mw_911 mw_48 mw_65 mw_912 ⟨rfl, rfl⟩ hd_X9_layBlock rfl rfl ⟨Nat.le_of_ble_eq_true rfl, Nat.le_of_ble_eq_true rfl⟩ (Nat.le_of_ble_eq_true rfl) ⟨Nat.zero_le _, Nat.zero_le _⟩ dX9_mayOf_44 (fun M44 H locs hw hP hS => ?_)
      refine lv_aload_n (pc := 47) hx hb dX9_mayOf_47 rfl (lv_at hl 2 rfl) ?_
      refine gf_729 (pc := 48) C hP h0 dX9_mayOf_48 ?_
      refine lv_iconst (pc := 51) (v := (0 : Int32)) hx hb dX9_mayOf_51 (by decide) ?_
      refine r_ialdK (pc := 52) (n := 60) (k := 0) C hP (cl_29_13 hC h0) (fun _ _ _ _ => rfl) (vpc (by decide)) (by decide) dX9_mayOf_52 ?_
      exact r_iret (pc := 53) C hP hS hw dX9_mayOf_53
    · replace hw := if_f h hw
      refine lv_aload_n (pc := 31) hx hb dX9_mayOf_31 rfl (lv_at hl 2 rfl) ?_
      refine gf_718 (pc := 32) C hP h0 dX9_mayOf_32 ?_
      refine lv_iload_n (pc := 35) hx hb dX9_mayOf_35 rfl (lv_at hl 0 rfl) ?_
      refine lv_iconst (pc := 36) (v := (3 : Int32)) hx hb dX9_mayOf_36 (by decide) ?_
      refine lv_iadd (pc := 37) hx hb dX9_mayOf_37 ?_
      refine r_ialdK (pc := 38) (n := 288) (k := (x3_24 + (3 : Int32)).toNatClampNeg) C hP (cl_29_2 hC h0) (fun _ _ _ _ => rfl) hw.1 rfl dX9_mayOf_38 ?_
      replace hw := hw.2
      refine lv_if_ge (pc := 39) (tgt := 54) hx hb dX9_mayOf_39 (by decide) (fun h => ?_) (fun h => ?_)
      · replace hw := if_t h hw
        refine lv_iconst (pc := 54) (v := (0 : Int32)) hx hb dX9_mayOf_54 (by decide) ?_
        refine lv_istore (pc := 55) (lv' := [(4, .int (0 : Int32)), (3, .int x3_24), (2, .int r12), (0, .ref (ad (29, 0, 0, 0))), (1, .int a1)]) hx hb dX9_mayOf_55 hl (by decide) rfl (fun ls hl => ?_)
        refine lv_iconst (pc := 57) (v := (0 : Int32)) hx hb dX9_mayOf_57 (by decide) ?_
        refine lv_istore (pc := 58) (lv' := [(5, .int (0 : Int32)), (4, .int (0 : Int32)), (3, .int x3_24), (2, .int r12), (0, .ref (ad (29, 0, 0, 0))), (1, .int a1)]) hx hb dX9_mayOf_58 hl (by decide) rfl (fun ls hl => ?_)
        obtain ⟨n0, hw⟩ := hw
        exact j_X9_mayOf_60 C hC h0 n0 r12 x3_24 (0 : Int32) (0 : Int32) M12 _ _ _ hw hP hS (lv_sub hl [4, 3, 2, 1, 0] rfl)
      · replace hw := if_f h hw
        refine lv_aload_n (pc := 42) hx hb dX9_mayOf_42 rfl (lv_at hl 2 rfl) ?_
        refine lv_iload_n (pc := 43) hx hb dX9_mayOf_43 rfl (lv_at hl 3 rfl) ?_
        refine r_cVV (pc := 44) (rest := []) (As := [.int a1]) C hl.1 hP hS (k_X9_layBlock l G hC h0 hw) h0 rfl rfl mw_909 mw_911 mw_48 mw_65 mw_912 ⟨rfl, rfl⟩ hd_X9_layBlock rfl rfl ⟨Nat.le_of_ble_eq_true rfl, Nat.le_of_ble_eq_true rfl⟩ (Nat.le_of_ble_eq_true rfl) ⟨Nat.zero_le _, Nat.zero_le _⟩ dX9_mayOf_44 (fun M44 H locs hw hP hS => ?_)
        refine lv_aload_n (pc := 47) hx hb dX9_mayOf_47 rfl (lv_at hl 2 rfl) ?_
        refine gf_729 (pc := 48) C hP h0 dX9_mayOf_48 ?_
        refine lv_iconst (pc := 51) (v := (0 : Int32)) hx hb dX9_mayOf_51 (by decide) ?_
        refine r_ialdK (pc := 52) (n := 60) (k := 0) C hP (cl_29_13 hC h0) (fun _ _ _ _ => rfl) (vpc (by decide)) (by decide) dX9_mayOf_52 ?_
        exact r_iret (pc := 53) C hP hS hw dX9_mayOf_53
  · replace hw := if_t h hw
    refine lv_iconst (pc := 9) (v := (0 : Int32)) hx hb dX9_mayOf_9 (by decide) ?_
    exact r_iret (pc := 10) C hP hS hw dX9_mayOf_10
end
theorem k_X9_mayOf (l : Launch) (G : GG) {I : ix → Prop} {ad : ix → Nat} (hC : clo I) {a1 : Int32} (h0 : I (29, 0, 0, 0)) {Q : Int32 → Mem → Prop} {M : Mem} (hw : w_X9_mayOf a1 Q M) : Met l yX9_mayOf (wW yX9_mayOf cX9_mayOf 7 (some .int)) rm_X9_mayOf (va_Pc [.ref (ad (29, 0, 0, 0)), .int a1] (fun U => wd G I ad M U.heap ∧ wK G U)) (qI G I ad Q) 0 0 (fA I ad) := met_of (by decide +kernel) (Nat.le_of_ble_eq_true rfl) (fun p e s m below meth c C hP hS ls hl => j_X9_mayOf_0 C hC h0 _ _ _ _ hw hP hS hl)
section
variable {p : Program} {l : Launch} {e : Env} {s : State} {m : MethodId} {args : Array Value} {below : List Frame} {meth : Method} {c : Code} 
variable  {G : GG} {I : ix → Prop} {ad : ix → Nat}
set_option maxHeartbeats 4000000 in
set_option maxRecDepth 100000 in
theorem j_X9_verdictOf_0 {a1 : Int32} (C : cx p s m args meth c cX9_verdictOf 3 (some .int) RX9 G) (hC : clo I) (h0 : I (29, 0, 0, 0)) {Q : Int32 → Mem → Prop} : ∀ (M : Mem) (H : Heap) (locs : List Loc) (ls : Array Slot), w_X9_verdictOf a1 Q M → wd G I ad M H → va_S (fA I ad) s.heap H locs → lv_has ls 3 [(0, .ref (ad (29, 0, 0, 0))), (1, .int a1)] → W p l e rm_X9_verdictOf s m args below meth c H locs 0 0 (MQ below (qI G I ad Q) args s 0 0 (fA I ad)) (F0 m 0 ls []) := by
  have hx := C.1
  have hb := C.2.1
  have hown := C.2.2.2.1
  have hts := C.2.2.2.2.1
  intro M H locs ls hw hP hS hl
  unfold w_X9_verdictOf at hw
  refine lv_aload_n (pc := 0) hx hb dX9_verdictOf_0 rfl (lv_at hl 0 rfl) ?_
  refine lv_iload_n (pc := 1) hx hb dX9_verdictOf_1 rfl (lv_at hl 1 rfl) ?_
  refine r_cVI (pc := 2) (rest := []) (As := [.int a1]) C hl.1 hP hS (k_X9_mayOf l G hC h0 hw) h0 rfl rfl mw_936 mw_938 mw_52 mw_65 mw_939 ⟨rfl, rfl⟩ hd_X9_mayOf rfl rfl ⟨Nat.le_of_ble_eq_true rfl, Nat.le_of_ble_eq_true rfl⟩ (Nat.le_of_ble_eq_true rfl) ⟨Nat.zero_le _, Nat.zero_le _⟩ dX9_verdictOf_2 (fun r2 M2 H locs hw hP hS => ?_)
  refine lv_istore_n (pc := 5) (lv' := [(2, .int r2), (0, .ref (ad (29, 0, 0, 0))), (1, .int a1)]) hx hb dX9_verdictOf_5 rfl hl (by decide) rfl (fun ls hl => ?_)
  refine lv_iload_n (pc := 6) hx hb dX9_verdictOf_6 rfl (lv_at hl 0 rfl) ?_
  refine lv_iconst (pc := 7) (v := (1 : Int32)) hx hb dX9_verdictOf_7 (by decide) ?_
  refine lv_iand (pc := 8) hx hb dX9_verdictOf_8 ?_
  refine lv_if_ne (pc := 9) (tgt := 16) hx hb dX9_verdictOf_9 (by decide) (fun h => ?_) (fun h => ?_)
  · replace hw := if_f h hw
    refine lv_iload_n (pc := 16) hx hb dX9_verdictOf_16 rfl (lv_at hl 0 rfl) ?_
    refine lv_iconst (pc := 17) (v := (1 : Int32)) hx hb dX9_verdictOf_17 (by decide) ?_
    refine lv_icmp_ne (pc := 18) (tgt := 25) hx hb dX9_verdictOf_18 (by decide) (fun h => ?_) (fun h => ?_)
    · replace hw := if_f h hw
      refine lv_iconst (pc := 25) (v := (2 : Int32)) hx hb dX9_verdictOf_25 (by decide) ?_
      exact r_iret (pc := 26) C hP hS hw dX9_verdictOf_26
    · replace hw := if_t h hw
      refine lv_iconst (pc := 21) (v := (1 : Int32)) hx hb dX9_verdictOf_21 (by decide) ?_
      refine lv_goto (pc := 22) (tgt := 26) hx hb dX9_verdictOf_22 (by decide) ?_
      exact r_iret (pc := 26) C hP hS hw dX9_verdictOf_26
  · replace hw := if_t h hw
    refine lv_iconst (pc := 12) (v := (0 : Int32)) hx hb dX9_verdictOf_12 (by decide) ?_
    refine lv_goto (pc := 13) (tgt := 26) hx hb dX9_verdictOf_13 (by decide) ?_
    exact r_iret (pc := 26) C hP hS hw dX9_verdictOf_26
end
theorem k_X9_verdictOf (l : Launch) (G : GG) {I : ix → Prop} {ad : ix → Nat} (hC : clo I) {a1 : Int32} (h0 : I (29, 0, 0, 0)) {Q : Int32 → Mem → Prop} {M : Mem} (hw : w_X9_verdictOf a1 Q M) : Met l yX9_verdictOf (wW yX9_verdictOf cX9_verdictOf 3 (some .int)) rm_X9_verdictOf (va_Pc [.ref (ad (29, 0, 0, 0)), .int a1] (fun U => wd G I ad M U.heap ∧ wK G U)) (qI G I ad Q) 0 0 (fA I ad) := met_of (by decide +kernel) (Nat.le_of_ble_eq_true rfl) (fun p e s m below meth c C hP hS ls hl => j_X9_verdictOf_0 C hC h0 _ _ _ _ hw hP hS hl)
section
variable {p : Program} {l : Launch} {e : Env} {s : State} {m : MethodId} {args : Array Value} {below : List Frame} {meth : Method} {c : Code} 
variable  {G : GG} {I : ix → Prop} {ad : ix → Nat}
set_option maxHeartbeats 4000000 in
set_option maxRecDepth 100000 in
theorem j_X9_verdict_0 {a1 : Int32} {a2 : Int32} (C : cx p s m args meth c cX9_verdict 3 (some .int) RX9 G) (hC : clo I) (h0 : I (29, 0, 0, 0)) {Q : Int32 → Mem → Prop} : ∀ (M : Mem) (H : Heap) (locs : List Loc) (ls : Array Slot), w_X9_verdict a1 a2 Q M → wd G I ad M H → va_S (fA I ad) s.heap H locs → lv_has ls 3 [(0, .ref (ad (29, 0, 0, 0))), (1, .int a1), (2, .int a2)] → W p l e rm_X9_verdict s m args below meth c H locs 0 0 (MQ below (qI G I ad Q) args s 0 0 (fA I ad)) (F0 m 0 ls []) := by
  have hx := C.1
  have hb := C.2.1
  have hown := C.2.2.2.1
  have hts := C.2.2.2.2.1
  intro M H locs ls hw hP hS hl
  unfold w_X9_verdict at hw
  refine lv_iload_n (pc := 0) hx hb dX9_verdict_0 rfl (lv_at hl 1 rfl) ?_
  refine r_cSI (pc := 1) (rest := []) (As := [.int a1]) C hl.1 hP hS (k_X9_isBlock l G hC  hw) mw_776 mw_777 mw_65 mw_778 ⟨rfl, rfl⟩ hd_X9_isBlock rfl rfl ⟨Nat.le_of_ble_eq_true rfl, Nat.le_of_ble_eq_true rfl⟩ (Nat.le_of_ble_eq_true rfl) ⟨Nat.zero_le _, Nat.zero_le _⟩ dX9_verdict_1 (fun r1 M1 H locs hw hP hS => ?_)
  refine lv_if_ne (pc := 4) (tgt := 9) hx hb dX9_verdict_4 (by decide) (fun h => ?_) (fun h => ?_)
  · replace hw := if_f h hw
    refine lv_iload_n (pc := 9) hx hb dX9_verdict_9 rfl (lv_at hl 2 rfl) ?_
    refine lv_iconst (pc := 10) (v := (0 : Int32)) hx hb dX9_verdict_10 (by decide) ?_
    refine lv_iconst (pc := 11) (v := (1 : Int32)) hx hb dX9_verdict_11 (by decide) ?_
    refine r_cSI (pc := 12) (rest := []) (As := [.int a2, .int (0 : Int32), .int (1 : Int32)]) C hl.1 hP hS (k_X9_in l G hC  hw) mw_779 mw_780 mw_65 mw_781 ⟨rfl, rfl⟩ hd_X9_in rfl rfl ⟨Nat.le_of_ble_eq_true rfl, Nat.le_of_ble_eq_true rfl⟩ (Nat.le_of_ble_eq_true rfl) ⟨Nat.zero_le _, Nat.zero_le _⟩ dX9_verdict_12 (fun r12 M12 H locs hw hP hS => ?_)
    refine lv_if_ne (pc := 15) (tgt := 21) hx hb dX9_verdict_15 (by decide) (fun h => ?_) (fun h => ?_)
    · replace hw := if_f h hw
      refine lv_aload_n (pc := 21) hx hb dX9_verdict_21 rfl (lv_at hl 0 rfl) ?_
      refine r_cVI (pc := 22) (rest := []) (As := []) C hl.1 hP hS (k_X9_read l G hC h0 hw) h0 rfl rfl mw_843 mw_845 mw_41 mw_65 mw_846 ⟨rfl, rfl⟩ hd_X9_read rfl rfl ⟨Nat.le_of_ble_eq_true rfl, Nat.le_of_ble_eq_true rfl⟩ (Nat.le_of_ble_eq_true rfl) ⟨Nat.zero_le _, Nat.zero_le _⟩ dX9_verdict_22 (fun r22 M22 H locs hw hP hS => ?_)
      refine lv_ldc (pc := 25) (own := RX9) (v := (-2000000 : Int32)) hx hb hown (hts _ mw_715) dX9_verdict_25 ?_
      refine lv_icmp_eq (pc := 27) (tgt := 33) hx hb dX9_verdict_27 (by decide) (fun h => ?_) (fun h => ?_)
      · replace hw := if_t h hw
        refine lv_iload_n (pc := 33) hx hb dX9_verdict_33 rfl (lv_at hl 2 rfl) ?_
        refine lv_if_ne (pc := 34) (tgt := 45) hx hb dX9_verdict_34 (by decide) (fun h => ?_) (fun h => ?_)
        · replace hw := if_f h hw
          refine lv_aload_n (pc := 45) hx hb dX9_verdict_45 rfl (lv_at hl 0 rfl) ?_
          refine lv_iload_n (pc := 46) hx hb dX9_verdict_46 rfl (lv_at hl 1 rfl) ?_
          refine r_cVI (pc := 47) (rest := []) (As := [.int a1]) C hl.1 hP hS (k_X9_mayOf l G hC h0 hw) h0 rfl rfl mw_936 mw_938 mw_52 mw_65 mw_939 ⟨rfl, rfl⟩ hd_X9_mayOf rfl rfl ⟨Nat.le_of_ble_eq_true rfl, Nat.le_of_ble_eq_true rfl⟩ (Nat.le_of_ble_eq_true rfl) ⟨Nat.zero_le _, Nat.zero_le _⟩ dX9_verdict_47 (fun r47 M47 H locs hw hP hS => ?_)
          exact r_iret (pc := 50) C hP hS hw dX9_verdict_50
        · replace hw := if_t h hw
          refine lv_aload_n (pc := 37) hx hb dX9_verdict_37 rfl (lv_at hl 0 rfl) ?_
          refine lv_iload_n (pc := 38) hx hb dX9_verdict_38 rfl (lv_at hl 1 rfl) ?_
          refine r_cVI (pc := 39) (rest := []) (As := [.int a1]) C hl.1 hP hS (k_X9_verdictOf l G hC h0 hw) h0 rfl rfl mw_932 mw_934 mw_51 mw_65 mw_935 ⟨rfl, rfl⟩ hd_X9_verdictOf rfl rfl ⟨Nat.le_of_ble_eq_true rfl, Nat.le_of_ble_eq_true rfl⟩ (Nat.le_of_ble_eq_true rfl) ⟨Nat.zero_le _, Nat.zero_le _⟩ dX9_verdict_39 (fun r39 M39 H locs hw hP hS => ?_)
          refine lv_goto (pc := 42) (tgt := 50) hx hb dX9_verdict_42 (by decide) ?_
          exact r_iret (pc := 50) C hP hS hw dX9_verdict_50
      · replace hw := if_f h hw
        refine lv_bipush (pc := 30) (v := (-5 : Int32)) hx hb dX9_verdict_30 (by decide) ?_
        exact r_iret (pc := 32) C hP hS hw dX9_verdict_32
    · replace hw := if_t h hw
      refine lv_bipush (pc := 18) (v := (-2 : Int32)) hx hb dX9_verdict_18 (by decide) ?_
      exact r_iret (pc := 20) C hP hS hw dX9_verdict_20
  · replace hw := if_t h hw
    refine lv_iconst (pc := 7) (v := (-1 : Int32)) hx hb dX9_verdict_7 (by decide) ?_
    exact r_iret (pc := 8) C hP hS hw dX9_verdict_8
end
theorem k_X9_verdict (l : Launch) (G : GG) {I : ix → Prop} {ad : ix → Nat} (hC : clo I) {a1 : Int32} {a2 : Int32} (h0 : I (29, 0, 0, 0)) {Q : Int32 → Mem → Prop} {M : Mem} (hw : w_X9_verdict a1 a2 Q M) : Met l yX9_verdict (wW yX9_verdict cX9_verdict 3 (some .int)) rm_X9_verdict (va_Pc [.ref (ad (29, 0, 0, 0)), .int a1, .int a2] (fun U => wd G I ad M U.heap ∧ wK G U)) (qI G I ad Q) 0 0 (fA I ad) := met_of (by decide +kernel) (Nat.le_of_ble_eq_true rfl) (fun p e s m below meth c C hP hS ls hl => j_X9_verdict_0 C hC h0 _ _ _ _ hw hP hS hl)
section
variable {p : Program} {l : Launch} {e : Env} {s : State} {m : MethodId} {args : Array Value} {below : List Frame} {meth : Method} {c : Code} 
variable  {G : GG} {I : ix → Prop} {ad : ix → Nat}
set_option maxHeartbeats 4000000 in
set_option maxRecDepth 100000 in
theorem j_X9_isLike_6 {a1 : Int32} {a2 : Int32} {a3 : Int32} {a4 : Int32} (C : cx p s m args meth c cX9_isLike 7 (some .boolean) RX9 G) (hC : clo I) (h0 : I (29, 0, 0, 0)) {Q : Int32 → Mem → Prop} : ∀ (n : Nat), ∀ (x5 : Int32) (x6 : Int32) (M : Mem) (H : Heap) (locs : List Loc) (ls : Array Slot), w_X9_isLike_6 a1 a2 a3 a4 Q n x5 x6 M → wd G I ad M H → va_S (fA I ad) s.heap H locs → lv_has ls 7 [(0, .ref (ad (29, 0, 0, 0))), (1, .int a1), (2, .int a2), (3, .int a3), (4, .int a4), (5, .int x5), (6, .int x6)] → W p l e rm_X9_isLike s m args below meth c H locs 0 0 (MQ below (qI G I ad Q) args s 0 0 (fA I ad)) (F0 m 6 ls []) := by
  have hx := C.1
  have hb := C.2.1
  have hown := C.2.2.2.1
  have hts := C.2.2.2.2.1
  intro n
  induction n with
  | zero =>
    intro x5 x6 M H locs ls hw hP hS hl
    rw [w_X9_isLike_6] at hw
    exact hw.elim
  | succ n ih =>
    intro x5 x6 M H locs ls hw hP hS hl
    rw [w_X9_isLike_6] at hw
    refine lv_iload (pc := 6) hx hb dX9_isLike_6 (lv_at hl 6 rfl) ?_
    refine lv_iconst (pc := 8) (v := (4 : Int32)) hx hb dX9_isLike_8 (by decide) ?_
    refine lv_icmp_ge (pc := 9) (tgt := 50) hx hb dX9_isLike_9 (by decide) (fun h => ?_) (fun h => ?_)
    · replace hw := if_t h hw
      refine lv_iload (pc := 50) hx hb dX9_isLike_50 (lv_at hl 5 rfl) ?_
      exact r_zret (pc := 52) C hP hS hw.1 hw.2 dX9_isLike_52
    · replace hw := if_f h hw
      refine lv_iload (pc := 12) hx hb dX9_isLike_12 (lv_at hl 5 rfl) ?_
      refine lv_if_eq (pc := 14) (tgt := 41) hx hb dX9_isLike_14 (by decide) (fun h => ?_) (fun h => ?_)
      · replace hw := if_t h hw
        refine lv_iconst (pc := 41) (v := (0 : Int32)) hx hb dX9_isLike_41 (by decide) ?_
        refine lv_istore (pc := 42) (lv' := [(5, .int (0 : Int32)), (0, .ref (ad (29, 0, 0, 0))), (1, .int a1), (2, .int a2), (3, .int a3), (4, .int a4), (6, .int x6)]) hx hb dX9_isLike_42 hl (by decide) rfl (fun ls hl => ?_)
        refine lv_iinc (pc := 44) (v := x6 + 1) (lv' := [(6, .int (x6 + 1)), (5, .int (0 : Int32)), (0, .ref (ad (29, 0, 0, 0))), (1, .int a1), (2, .int a2), (3, .int a3), (4, .int a4)]) hx hb dX9_isLike_44 hl (k := 6) rfl rfl (by decide) rfl (fun ls hl => ?_)
        refine lv_goto (pc := 47) (tgt := 6) hx hb dX9_isLike_47 (by decide) ?_
        exact ih (0 : Int32) (x6 + 1) M _ _ _ hw hP hS (lv_sub hl [2, 3, 4, 5, 6, 1, 0] rfl)
      · replace hw := if_f h hw
        refine lv_aload_n (pc := 17) hx hb dX9_isLike_17 rfl (lv_at hl 0 rfl) ?_
        refine lv_iload_n (pc := 18) hx hb dX9_isLike_18 rfl (lv_at hl 1 rfl) ?_
        refine lv_iload_n (pc := 19) hx hb dX9_isLike_19 rfl (lv_at hl 2 rfl) ?_
        refine lv_iload (pc := 20) hx hb dX9_isLike_20 (lv_at hl 6 rfl) ?_
        refine r_cVI (pc := 22) (rest := []) (As := [.int a1, .int a2, .int x6]) C hl.1 hP hS (k_X9_at l G hC h0 hw) h0 rfl rfl mw_798 mw_800 mw_38 mw_65 mw_801 ⟨rfl, rfl⟩ hd_X9_at rfl rfl ⟨Nat.le_of_ble_eq_true rfl, Nat.le_of_ble_eq_true rfl⟩ (Nat.le_of_ble_eq_true rfl) ⟨Nat.zero_le _, Nat.zero_le _⟩ dX9_isLike_22 (fun r22 M22 H locs hw hP hS => ?_)
        refine lv_aload_n (pc := 25) hx hb dX9_isLike_25 rfl (lv_at hl 0 rfl) ?_
        refine lv_iload_n (pc := 26) hx hb dX9_isLike_26 rfl (lv_at hl 3 rfl) ?_
        refine lv_iload (pc := 27) hx hb dX9_isLike_27 (lv_at hl 4 rfl) ?_
        refine lv_iload (pc := 29) hx hb dX9_isLike_29 (lv_at hl 6 rfl) ?_
        refine r_cVI (pc := 31) (rest := [.int r22]) (As := [.int a3, .int a4, .int x6]) C hl.1 hP hS (k_X9_at l G hC h0 hw) h0 rfl rfl mw_798 mw_800 mw_38 mw_65 mw_801 ⟨rfl, rfl⟩ hd_X9_at rfl rfl ⟨Nat.le_of_ble_eq_true rfl, Nat.le_of_ble_eq_true rfl⟩ (Nat.le_of_ble_eq_true rfl) ⟨Nat.zero_le _, Nat.zero_le _⟩ dX9_isLike_31 (fun r31 M31 H locs hw hP hS => ?_)
        refine lv_icmp_ne (pc := 34) (tgt := 41) hx hb dX9_isLike_34 (by decide) (fun h => ?_) (fun h => ?_)
        · replace hw := if_f h hw
          refine lv_iconst (pc := 41) (v := (0 : Int32)) hx hb dX9_isLike_41 (by decide) ?_
          refine lv_istore (pc := 42) (lv' := [(5, .int (0 : Int32)), (0, .ref (ad (29, 0, 0, 0))), (1, .int a1), (2, .int a2), (3, .int a3), (4, .int a4), (6, .int x6)]) hx hb dX9_isLike_42 hl (by decide) rfl (fun ls hl => ?_)
          refine lv_iinc (pc := 44) (v := x6 + 1) (lv' := [(6, .int (x6 + 1)), (5, .int (0 : Int32)), (0, .ref (ad (29, 0, 0, 0))), (1, .int a1), (2, .int a2), (3, .int a3), (4, .int a4)]) hx hb dX9_isLike_44 hl (k := 6) rfl rfl (by decide) rfl (fun ls hl => ?_)
          refine lv_goto (pc := 47) (tgt := 6) hx hb dX9_isLike_47 (by decide) ?_
          exact ih (0 : Int32) (x6 + 1) M31 _ _ _ hw hP hS (lv_sub hl [2, 3, 4, 5, 6, 1, 0] rfl)
        · replace hw := if_t h hw
          refine lv_iconst (pc := 37) (v := (1 : Int32)) hx hb dX9_isLike_37 (by decide) ?_
          refine lv_goto (pc := 38) (tgt := 42) hx hb dX9_isLike_38 (by decide) ?_
          refine lv_istore (pc := 42) (lv' := [(5, .int (1 : Int32)), (0, .ref (ad (29, 0, 0, 0))), (1, .int a1), (2, .int a2), (3, .int a3), (4, .int a4), (6, .int x6)]) hx hb dX9_isLike_42 hl (by decide) rfl (fun ls hl => ?_)
          refine lv_iinc (pc := 44) (v := x6 + 1) (lv' := [(6, .int (x6 + 1)), (5, .int (1 : Int32)), (0, .ref (ad (29, 0, 0, 0))), (1, .int a1), (2, .int a2), (3, .int a3), (4, .int a4)]) hx hb dX9_isLike_44 hl (k := 6) rfl rfl (by decide) rfl (fun ls hl => ?_)
          refine lv_goto (pc := 47) (tgt := 6) hx hb dX9_isLike_47 (by decide) ?_
          exact ih (1 : Int32) (x6 + 1) M31 _ _ _ hw hP hS (lv_sub hl [2, 3, 4, 5, 6, 1, 0] rfl)
set_option maxHeartbeats 4000000 in
set_option maxRecDepth 100000 in
theorem j_X9_isLike_0 {a1 : Int32} {a2 : Int32} {a3 : Int32} {a4 : Int32} (C : cx p s m args meth c cX9_isLike 7 (some .boolean) RX9 G) (hC : clo I) (h0 : I (29, 0, 0, 0)) {Q : Int32 → Mem → Prop} : ∀ (M : Mem) (H : Heap) (locs : List Loc) (ls : Array Slot), w_X9_isLike a1 a2 a3 a4 Q M → wd G I ad M H → va_S (fA I ad) s.heap H locs → lv_has ls 7 [(0, .ref (ad (29, 0, 0, 0))), (1, .int a1), (2, .int a2), (3, .int a3), (4, .int a4)] → W p l e rm_X9_isLike s m args below meth c H locs 0 0 (MQ below (qI G I ad Q) args s 0 0 (fA I ad)) (F0 m 0 ls []) := by
  have hx := C.1
  have hb := C.2.1
  have hown := C.2.2.2.1
  have hts := C.2.2.2.2.1
  intro M H locs ls hw hP hS hl
  unfold w_X9_isLike at hw
  refine lv_iconst (pc := 0) (v := (1 : Int32)) hx hb dX9_isLike_0 (by decide) ?_
  refine lv_istore (pc := 1) (lv' := [(5, .int (1 : Int32)), (0, .ref (ad (29, 0, 0, 0))), (1, .int a1), (2, .int a2), (3, .int a3), (4, .int a4)]) hx hb dX9_isLike_1 hl (by decide) rfl (fun ls hl => ?_)
  refine lv_iconst (pc := 3) (v := (0 : Int32)) hx hb dX9_isLike_3 (by decide) ?_
  refine lv_istore (pc := 4) (lv' := [(6, .int (0 : Int32)), (5, .int (1 : Int32)), (0, .ref (ad (29, 0, 0, 0))), (1, .int a1), (2, .int a2), (3, .int a3), (4, .int a4)]) hx hb dX9_isLike_4 hl (by decide) rfl (fun ls hl => ?_)
  obtain ⟨n0, hw⟩ := hw
  exact j_X9_isLike_6 C hC h0 n0 (1 : Int32) (0 : Int32) M _ _ _ hw hP hS (lv_sub hl [2, 3, 4, 5, 6, 1, 0] rfl)
end
theorem k_X9_isLike (l : Launch) (G : GG) {I : ix → Prop} {ad : ix → Nat} (hC : clo I) {a1 : Int32} {a2 : Int32} {a3 : Int32} {a4 : Int32} (h0 : I (29, 0, 0, 0)) {Q : Int32 → Mem → Prop} {M : Mem} (hw : w_X9_isLike a1 a2 a3 a4 Q M) : Met l yX9_isLike (wW yX9_isLike cX9_isLike 7 (some .boolean)) rm_X9_isLike (va_Pc [.ref (ad (29, 0, 0, 0)), .int a1, .int a2, .int a3, .int a4] (fun U => wd G I ad M U.heap ∧ wK G U)) (qI G I ad Q) 0 0 (fA I ad) := met_of (by decide +kernel) (Nat.le_of_ble_eq_true rfl) (fun p e s m below meth c C hP hS ls hl => j_X9_isLike_0 C hC h0 _ _ _ _ hw hP hS hl)
section
variable {p : Program} {l : Launch} {e : Env} {s : State} {m : MethodId} {args : Array Value} {below : List Frame} {meth : Method} {c : Code} 
variable  {G : GG} {I : ix → Prop} {ad : ix → Nat}
set_option maxHeartbeats 4000000 in
set_option maxRecDepth 100000 in
theorem j_X9_answer_141 {a1 : Int32} (C : cx p s m args meth c cX9_answer 12 (some .int) RX9 G) (hC : clo I) (h0 : I (29, 0, 0, 0)) {Q : Int32 → Mem → Prop} {B37 : Int32 → Int32 → Int32 → Int32 → Int32 → Mem → Prop} (hB37 : ∀ (x2 : Int32) (x3 : Int32) (x4 : Int32) (x5 : Int32) (x6 : Int32) (M : Mem) (H : Heap) (locs : List Loc) (ls : Array Slot), B37 x2 x3 x4 x5 x6 M → wd G I ad M H → va_S (fA I ad) s.heap H locs → lv_has ls 12 [(0, .ref (ad (29, 0, 0, 0))), (1, .int a1), (2, .int x2), (3, .int x3), (4, .int x4), (5, .int x5), (6, .int x6)] → W p l e rm_X9_answer s m args below meth c H locs 0 0 (MQ below (qI G I ad Q) args s 0 0 (fA I ad)) (F0 m 37 ls [])) {B98 : Int32 → Int32 → Int32 → Int32 → Int32 → Int32 → Mem → Prop} (hB98 : ∀ (x2 : Int32) (x3 : Int32) (x4 : Int32) (x5 : Int32) (x6 : Int32) (x8 : Int32) (M : Mem) (H : Heap) (locs : List Loc) (ls : Array Slot), B98 x2 x3 x4 x5 x6 x8 M → wd G I ad M H → va_S (fA I ad) s.heap H locs → lv_has ls 12 [(0, .ref (ad (29, 0, 0, 0))), (1, .int a1), (2, .int x2), (3, .int x3), (4, .int x4), (5, .int x5), (6, .int x6), (8, .int x8)] → W p l e rm_X9_answer s m args below meth c H locs 0 0 (MQ below (qI G I ad Q) args s 0 0 (fA I ad)) (F0 m 98 ls [])) {B131 : Int32 → Int32 → Int32 → Int32 → Int32 → Int32 → Int32 → Int32 → Mem → Prop} (hB131 : ∀ (x2 : Int32) (x3 : Int32) (x4 : Int32) (x5 : Int32) (x6 : Int32) (x8 : Int32) (x9 : Int32) (x10 : Int32) (M : Mem) (H : Heap) (locs : List Loc) (ls : Array Slot), B131 x2 x3 x4 x5 x6 x8 x9 x10 M → wd G I ad M H → va_S (fA I ad) s.heap H locs → lv_has ls 12 [(0, .ref (ad (29, 0, 0, 0))), (1, .int a1), (2, .int x2), (3, .int x3), (4, .int x4), (5, .int x5), (6, .int x6), (8, .int x8), (9, .int x9), (10, .int x10)] → W p l e rm_X9_answer s m args below meth c H locs 0 0 (MQ below (qI G I ad Q) args s 0 0 (fA I ad)) (F0 m 131 ls [])) : ∀ (n : Nat), ∀ (x2 : Int32) (x3 : Int32) (x4 : Int32) (x5 : Int32) (x6 : Int32) (x8 : Int32) (x9 : Int32) (x10 : Int32) (x11 : Int32) (M : Mem) (H : Heap) (locs : List Loc) (ls : Array Slot), w_X9_answer_141 a1 Q B37 B98 B131 n x2 x3 x4 x5 x6 x8 x9 x10 x11 M → wd G I ad M H → va_S (fA I ad) s.heap H locs → lv_has ls 12 [(0, .ref (ad (29, 0, 0, 0))), (1, .int a1), (2, .int x2), (3, .int x3), (4, .int x4), (5, .int x5), (6, .int x6), (8, .int x8), (9, .int x9), (10, .int x10), (11, .int x11)] → W p l e rm_X9_answer s m args below meth c H locs 0 0 (MQ below (qI G I ad Q) args s 0 0 (fA I ad)) (F0 m 141 ls []) := by
  have hx := C.1
  have hb := C.2.1
  have hown := C.2.2.2.1
  have hts := C.2.2.2.2.1
  intro n
  induction n with
  | zero =>
    intro x2 x3 x4 x5 x6 x8 x9 x10 x11 M H locs ls hw hP hS hl
    rw [w_X9_answer_141] at hw
    exact hw.elim
  | succ n ih =>
    intro x2 x3 x4 x5 x6 x8 x9 x10 x11 M H locs ls hw hP hS hl
    rw [w_X9_answer_141] at hw
    refine lv_iload (pc := 141) hx hb dX9_answer_141 (lv_at hl 10 rfl) ?_
    refine lv_aload_n (pc := 143) hx hb dX9_answer_143 rfl (lv_at hl 0 rfl) ?_
    refine gf_717 (pc := 144) C hP h0 dX9_answer_144 ?_
    refine lv_iload (pc := 147) hx hb dX9_answer_147 (lv_at hl 9 rfl) ?_
    refine r_ialdK (pc := 149) (n := 6) (k := x10.toNatClampNeg) C hP (cl_29_1 hC h0) (fun _ _ _ _ => rfl) hw.1 rfl dX9_answer_149 ?_
    replace hw := hw.2
    refine lv_icmp_ge (pc := 150) (tgt := 200) hx hb dX9_answer_150 (by decide) (fun h => ?_) (fun h => ?_)
    · replace hw := if_t h hw
      refine lv_iinc (pc := 200) (v := x10 + 1) (lv' := [(10, .int (x10 + 1)), (0, .ref (ad (29, 0, 0, 0))), (1, .int a1), (2, .int x2), (3, .int x3), (4, .int x4), (5, .int x5), (6, .int x6), (8, .int x8), (9, .int x9), (11, .int x11)]) hx hb dX9_answer_200 hl (k := 9) rfl rfl (by decide) rfl (fun ls hl => ?_)
      refine lv_goto (pc := 203) (tgt := 131) hx hb dX9_answer_203 (by decide) ?_
      exact hB131 x2 x3 x4 x5 x6 x8 x9 (x10 + 1) M _ _ _ hw hP hS (lv_sub hl [1, 2, 3, 4, 5, 6, 7, 8, 9, 0] rfl)
    · replace hw := if_f h hw
      refine lv_iload (pc := 153) hx hb dX9_answer_153 (lv_at hl 9 rfl) ?_
      refine lv_iload (pc := 155) hx hb dX9_answer_155 (lv_at hl 6 rfl) ?_
      refine lv_icmp_lt (pc := 157) (tgt := 167) hx hb dX9_answer_157 (by decide) (fun h => ?_) (fun h => ?_)
      · replace hw := if_t h hw
        refine lv_iload (pc := 167) hx hb dX9_answer_167 (lv_at hl 8 rfl) ?_
        refine lv_if_eq (pc := 169) (tgt := 191) hx hb dX9_answer_169 (by decide) (fun h => ?_) (fun h => ?_)
        · replace hw := if_t h hw
          refine lv_iconst (pc := 191) (v := (0 : Int32)) hx hb dX9_answer_191 (by decide) ?_
          refine lv_istore (pc := 192) (lv' := [(9, .int (0 : Int32)), (0, .ref (ad (29, 0, 0, 0))), (1, .int a1), (2, .int x2), (3, .int x3), (4, .int x4), (5, .int x5), (6, .int x6), (8, .int x8), (10, .int x10), (11, .int x11)]) hx hb dX9_answer_192 hl (by decide) rfl (fun ls hl => ?_)
          refine lv_iinc (pc := 194) (v := x11 + 1) (lv' := [(11, .int (x11 + 1)), (9, .int (0 : Int32)), (0, .ref (ad (29, 0, 0, 0))), (1, .int a1), (2, .int x2), (3, .int x3), (4, .int x4), (5, .int x5), (6, .int x6), (8, .int x8), (10, .int x10)]) hx hb dX9_answer_194 hl (k := 10) rfl rfl (by decide) rfl (fun ls hl => ?_)
          refine lv_goto (pc := 197) (tgt := 141) hx hb dX9_answer_197 (by decide) ?_
          exact ih x2 x3 x4 x5 x6 x8 (0 : Int32) x10 (x11 + 1) M _ _ _ hw hP hS (lv_sub hl [2, 3, 4, 5, 6, 7, 8, 9, 1, 10, 0] rfl)
        · replace hw := if_f h hw
          refine lv_aload_n (pc := 172) hx hb dX9_answer_172 rfl (lv_at hl 0 rfl) ?_
          refine lv_iload (pc := 173) hx hb dX9_answer_173 (lv_at hl 6 rfl) ?_
          refine lv_iload (pc := 175) hx hb dX9_answer_175 (lv_at hl 7 rfl) ?_
          refine lv_iload (pc := 177) hx hb dX9_answer_177 (lv_at hl 9 rfl) ?_
          refine lv_iload (pc := 179) hx hb dX9_answer_179 (lv_at hl 10 rfl) ?_
          refine r_cVI (pc := 181) (rest := []) (As := [.int x6, .int x8, .int x10, .int x11]) C hl.1 hP hS (k_X9_isLike l G hC h0 hw) h0 rfl rfl mw_948 mw_950 mw_54 mw_65 mw_951 ⟨rfl, rfl⟩ hd_X9_isLike rfl rfl ⟨Nat.le_of_ble_eq_true rfl, Nat.le_of_ble_eq_true rfl⟩ (Nat.le_of_ble_eq_true rfl) ⟨Nat.zero_le _, Nat.zero_le _⟩ dX9_answer_181 (fun r181 M181 H locs hw hP hS => ?_)
          refine lv_if_ne (pc := 184) (tgt := 191) hx hb dX9_answer_184 (by decide) (fun h => ?_) (fun h => ?_)
          · replace hw := if_f h hw
            refine lv_iconst (pc := 191) (v := (0 : Int32)) hx hb dX9_answer_191 (by decide) ?_
            refine lv_istore (pc := 192) (lv' := [(9, .int (0 : Int32)), (0, .ref (ad (29, 0, 0, 0))), (1, .int a1), (2, .int x2), (3, .int x3), (4, .int x4), (5, .int x5), (6, .int x6), (8, .int x8), (10, .int x10), (11, .int x11)]) hx hb dX9_answer_192 hl (by decide) rfl (fun ls hl => ?_)
            refine lv_iinc (pc := 194) (v := x11 + 1) (lv' := [(11, .int (x11 + 1)), (9, .int (0 : Int32)), (0, .ref (ad (29, 0, 0, 0))), (1, .int a1), (2, .int x2), (3, .int x3), (4, .int x4), (5, .int x5), (6, .int x6), (8, .int x8), (10, .int x10)]) hx hb dX9_answer_194 hl (k := 10) rfl rfl (by decide) rfl (fun ls hl => ?_)
            refine lv_goto (pc := 197) (tgt := 141) hx hb dX9_answer_197 (by decide) ?_
            exact ih x2 x3 x4 x5 x6 x8 (0 : Int32) x10 (x11 + 1) M181 _ _ _ hw hP hS (lv_sub hl [2, 3, 4, 5, 6, 7, 8, 9, 1, 10, 0] rfl)
          · replace hw := if_t h hw
            refine lv_iconst (pc := 187) (v := (1 : Int32)) hx hb dX9_answer_187 (by decide) ?_
            refine lv_goto (pc := 188) (tgt := 192) hx hb dX9_answer_188 (by decide) ?_
            refine lv_istore (pc := 192) (lv' := [(9, .int (1 : Int32)), (0, .ref (ad (29, 0, 0, 0))), (1, .int a1), (2, .int x2), (3, .int x3), (4, .int x4), (5, .int x5), (6, .int x6), (8, .int x8), (10, .int x10), (11, .int x11)]) hx hb dX9_answer_192 hl (by decide) rfl (fun ls hl => ?_)
            refine lv_iinc (pc := 194) (v := x11 + 1) (lv' := [(11, .int (x11 + 1)), (9, .int (1 : Int32)), (0, .ref (ad (29, 0, 0, 0))), (1, .int a1), (2, .int x2), (3, .int x3), (4, .int x4), (5, .int x5), (6, .int x6), (8, .int x8), (10, .int x10)]) hx hb dX9_answer_194 hl (k := 10) rfl rfl (by decide) rfl (fun ls hl => ?_)
            refine lv_goto (pc := 197) (tgt := 141) hx hb dX9_answer_197 (by decide) ?_
            exact ih x2 x3 x4 x5 x6 x8 (1 : Int32) x10 (x11 + 1) M181 _ _ _ hw hP hS (lv_sub hl [2, 3, 4, 5, 6, 7, 8, 9, 1, 10, 0] rfl)
      · replace hw := if_f h hw
        refine lv_iload (pc := 160) hx hb dX9_answer_160 (lv_at hl 10 rfl) ?_
        refine lv_iload (pc := 162) hx hb dX9_answer_162 (lv_at hl 7 rfl) ?_
        refine lv_icmp_ge (pc := 164) (tgt := 200) hx hb dX9_answer_164 (by decide) (fun h => ?_) (fun h => ?_)
        · replace hw := if_t h hw
          refine lv_iinc (pc := 200) (v := x10 + 1) (lv' := [(10, .int (x10 + 1)), (0, .ref (ad (29, 0, 0, 0))), (1, .int a1), (2, .int x2), (3, .int x3), (4, .int x4), (5, .int x5), (6, .int x6), (8, .int x8), (9, .int x9), (11, .int x11)]) hx hb dX9_answer_200 hl (k := 9) rfl rfl (by decide) rfl (fun ls hl => ?_)
          refine lv_goto (pc := 203) (tgt := 131) hx hb dX9_answer_203 (by decide) ?_
          exact hB131 x2 x3 x4 x5 x6 x8 x9 (x10 + 1) M _ _ _ hw hP hS (lv_sub hl [1, 2, 3, 4, 5, 6, 7, 8, 9, 0] rfl)
        · replace hw := if_f h hw
          refine lv_iload (pc := 167) hx hb dX9_answer_167 (lv_at hl 8 rfl) ?_
          refine lv_if_eq (pc := 169) (tgt := 191) hx hb dX9_answer_169 (by decide) (fun h => ?_) (fun h => ?_)
          · replace hw := if_t h hw
            refine lv_iconst (pc := 191) (v := (0 : Int32)) hx hb dX9_answer_191 (by decide) ?_
            refine lv_istore (pc := 192) (lv' := [(9, .int (0 : Int32)), (0, .ref (ad (29, 0, 0, 0))), (1, .int a1), (2, .int x2), (3, .int x3), (4, .int x4), (5, .int x5), (6, .int x6), (8, .int x8), (10, .int x10), (11, .int x11)]) hx hb dX9_answer_192 hl (by decide) rfl (fun ls hl => ?_)
            refine lv_iinc (pc := 194) (v := x11 + 1) (lv' := [(11, .int (x11 + 1)), (9, .int (0 : Int32)), (0, .ref (ad (29, 0, 0, 0))), (1, .int a1), (2, .int x2), (3, .int x3), (4, .int x4), (5, .int x5), (6, .int x6), (8, .int x8), (10, .int x10)]) hx hb dX9_answer_194 hl (k := 10) rfl rfl (by decide) rfl (fun ls hl => ?_)
            refine lv_goto (pc := 197) (tgt := 141) hx hb dX9_answer_197 (by decide) ?_
            exact ih x2 x3 x4 x5 x6 x8 (0 : Int32) x10 (x11 + 1) M _ _ _ hw hP hS (lv_sub hl [2, 3, 4, 5, 6, 7, 8, 9, 1, 10, 0] rfl)
          · replace hw := if_f h hw
            refine lv_aload_n (pc := 172) hx hb dX9_answer_172 rfl (lv_at hl 0 rfl) ?_
            refine lv_iload (pc := 173) hx hb dX9_answer_173 (lv_at hl 6 rfl) ?_
            refine lv_iload (pc := 175) hx hb dX9_answer_175 (lv_at hl 7 rfl) ?_
            refine lv_iload (pc := 177) hx hb dX9_answer_177 (lv_at hl 9 rfl) ?_
            refine lv_iload (pc := 179) hx hb dX9_answer_179 (lv_at hl 10 rfl) ?_
            refine r_cVI (pc := 181) (rest := []) (As := [.int x6, .int x8, .int x10, .int x11]) C hl.1 hP hS (k_X9_isLike l G hC h0 hw) h0 rfl rfl mw_948 mw_950 mw_54 mw_65 mw_951 ⟨rfl, rfl⟩ hd_X9_isLike rfl rfl ⟨Nat.le_of_ble_eq_true rfl, Nat.le_of_ble_eq_true rfl⟩ (Nat.le_of_ble_eq_true rfl) ⟨Nat.zero_le _, Nat.zero_le _⟩ dX9_answer_181 (fun r181 M181 H locs hw hP hS => ?_)
            refine lv_if_ne (pc := 184) (tgt := 191) hx hb dX9_answer_184 (by decide) (fun h => ?_) (fun h => ?_)
            · replace hw := if_f h hw
              refine lv_iconst (pc := 191) (v := (0 : Int32)) hx hb dX9_answer_191 (by decide) ?_
              refine lv_istore (pc := 192) (lv' := [(9, .int (0 : Int32)), (0, .ref (ad (29, 0, 0, 0))), (1, .int a1), (2, .int x2), (3, .int x3), (4, .int x4), (5, .int x5), (6, .int x6), (8, .int x8), (10, .int x10), (11, .int x11)]) hx hb dX9_answer_192 hl (by decide) rfl (fun ls hl => ?_)
              refine lv_iinc (pc := 194) (v := x11 + 1) (lv' := [(11, .int (x11 + 1)), (9, .int (0 : Int32)), (0, .ref (ad (29, 0, 0, 0))), (1, .int a1), (2, .int x2), (3, .int x3), (4, .int x4), (5, .int x5), (6, .int x6), (8, .int x8), (10, .int x10)]) hx hb dX9_answer_194 hl (k := 10) rfl rfl (by decide) rfl (fun ls hl => ?_)
              refine lv_goto (pc := 197) (tgt := 141) hx hb dX9_answer_197 (by decide) ?_
              exact ih x2 x3 x4 x5 x6 x8 (0 : Int32) x10 (x11 + 1) M181 _ _ _ hw hP hS (lv_sub hl [2, 3, 4, 5, 6, 7, 8, 9, 1, 10, 0] rfl)
            · replace hw := if_t h hw
              refine lv_iconst (pc := 187) (v := (1 : Int32)) hx hb dX9_answer_187 (by decide) ?_
              refine lv_goto (pc := 188) (tgt := 192) hx hb dX9_answer_188 (by decide) ?_
              refine lv_istore (pc := 192) (lv' := [(9, .int (1 : Int32)), (0, .ref (ad (29, 0, 0, 0))), (1, .int a1), (2, .int x2), (3, .int x3), (4, .int x4), (5, .int x5), (6, .int x6), (8, .int x8), (10, .int x10), (11, .int x11)]) hx hb dX9_answer_192 hl (by decide) rfl (fun ls hl => ?_)
              refine lv_iinc (pc := 194) (v := x11 + 1) (lv' := [(11, .int (x11 + 1)), (9, .int (1 : Int32)), (0, .ref (ad (29, 0, 0, 0))), (1, .int a1), (2, .int x2), (3, .int x3), (4, .int x4), (5, .int x5), (6, .int x6), (8, .int x8), (10, .int x10)]) hx hb dX9_answer_194 hl (k := 10) rfl rfl (by decide) rfl (fun ls hl => ?_)
              refine lv_goto (pc := 197) (tgt := 141) hx hb dX9_answer_197 (by decide) ?_
              exact ih x2 x3 x4 x5 x6 x8 (1 : Int32) x10 (x11 + 1) M181 _ _ _ hw hP hS (lv_sub hl [2, 3, 4, 5, 6, 7, 8, 9, 1, 10, 0] rfl)
set_option maxHeartbeats 4000000 in
set_option maxRecDepth 100000 in
theorem j_X9_answer_131 {a1 : Int32} (C : cx p s m args meth c cX9_answer 12 (some .int) RX9 G) (hC : clo I) (h0 : I (29, 0, 0, 0)) {Q : Int32 → Mem → Prop} {B37 : Int32 → Int32 → Int32 → Int32 → Int32 → Mem → Prop} (hB37 : ∀ (x2 : Int32) (x3 : Int32) (x4 : Int32) (x5 : Int32) (x6 : Int32) (M : Mem) (H : Heap) (locs : List Loc) (ls : Array Slot), B37 x2 x3 x4 x5 x6 M → wd G I ad M H → va_S (fA I ad) s.heap H locs → lv_has ls 12 [(0, .ref (ad (29, 0, 0, 0))), (1, .int a1), (2, .int x2), (3, .int x3), (4, .int x4), (5, .int x5), (6, .int x6)] → W p l e rm_X9_answer s m args below meth c H locs 0 0 (MQ below (qI G I ad Q) args s 0 0 (fA I ad)) (F0 m 37 ls [])) {B98 : Int32 → Int32 → Int32 → Int32 → Int32 → Int32 → Mem → Prop} (hB98 : ∀ (x2 : Int32) (x3 : Int32) (x4 : Int32) (x5 : Int32) (x6 : Int32) (x8 : Int32) (M : Mem) (H : Heap) (locs : List Loc) (ls : Array Slot), B98 x2 x3 x4 x5 x6 x8 M → wd G I ad M H → va_S (fA I ad) s.heap H locs → lv_has ls 12 [(0, .ref (ad (29, 0, 0, 0))), (1, .int a1), (2, .int x2), (3, .int x3), (4, .int x4), (5, .int x5), (6, .int x6), (8, .int x8)] → W p l e rm_X9_answer s m args below meth c H locs 0 0 (MQ below (qI G I ad Q) args s 0 0 (fA I ad)) (F0 m 98 ls [])) : ∀ (n : Nat), ∀ (x2 : Int32) (x3 : Int32) (x4 : Int32) (x5 : Int32) (x6 : Int32) (x8 : Int32) (x9 : Int32) (x10 : Int32) (M : Mem) (H : Heap) (locs : List Loc) (ls : Array Slot), w_X9_answer_131 a1 Q B37 B98 n x2 x3 x4 x5 x6 x8 x9 x10 M → wd G I ad M H → va_S (fA I ad) s.heap H locs → lv_has ls 12 [(0, .ref (ad (29, 0, 0, 0))), (1, .int a1), (2, .int x2), (3, .int x3), (4, .int x4), (5, .int x5), (6, .int x6), (8, .int x8), (9, .int x9), (10, .int x10)] → W p l e rm_X9_answer s m args below meth c H locs 0 0 (MQ below (qI G I ad Q) args s 0 0 (fA I ad)) (F0 m 131 ls []) := by
  have hx := C.1
  have hb := C.2.1
  have hown := C.2.2.2.1
  have hts := C.2.2.2.2.1
  intro n
  induction n with
  | zero =>
    intro x2 x3 x4 x5 x6 x8 x9 x10 M H locs ls hw hP hS hl
    rw [w_X9_answer_131] at hw
    exact hw.elim
  | succ n ih =>
    intro x2 x3 x4 x5 x6 x8 x9 x10 M H locs ls hw hP hS hl
    rw [w_X9_answer_131] at hw
    refine lv_iload (pc := 131) hx hb dX9_answer_131 (lv_at hl 9 rfl) ?_
    refine lv_iload (pc := 133) hx hb dX9_answer_133 (lv_at hl 6 rfl) ?_
    refine lv_icmp_gt (pc := 135) (tgt := 206) hx hb dX9_answer_135 (by decide) (fun h => ?_) (fun h => ?_)
    · replace hw := if_t h hw
      refine lv_iload_n (pc := 206) hx hb dX9_answer_206 rfl (lv_at hl 3 rfl) ?_
      refine lv_iload (pc := 207) hx hb dX9_answer_207 (lv_at hl 8 rfl) ?_
      refine lv_if_eq (pc := 209) (tgt := 216) hx hb dX9_answer_209 (by decide) (fun h => ?_) (fun h => ?_)
      · replace hw := if_t h hw
        refine lv_iconst (pc := 216) (v := (0 : Int32)) hx hb dX9_answer_216 (by decide) ?_
        refine lv_iadd (pc := 217) hx hb dX9_answer_217 ?_
        refine lv_topi (fun x3_218 ex3_218 => ?_)
        replace hw := hw x3_218 ex3_218
        refine lv_istore_n (pc := 218) (lv' := [(3, .int x3_218), (0, .ref (ad (29, 0, 0, 0))), (1, .int a1), (2, .int x2), (4, .int x4), (5, .int x5), (6, .int x6), (8, .int x8), (9, .int x9), (10, .int x10)]) hx hb dX9_answer_218 rfl hl (by decide) rfl (fun ls hl => ?_)
        refine lv_iinc (pc := 219) (v := x8 + 1) (lv' := [(8, .int (x8 + 1)), (3, .int x3_218), (0, .ref (ad (29, 0, 0, 0))), (1, .int a1), (2, .int x2), (4, .int x4), (5, .int x5), (6, .int x6), (9, .int x9), (10, .int x10)]) hx hb dX9_answer_219 hl (k := 7) rfl rfl (by decide) rfl (fun ls hl => ?_)
        refine lv_goto (pc := 222) (tgt := 98) hx hb dX9_answer_222 (by decide) ?_
        exact hB98 x2 x3_218 x4 x5 x6 (x8 + 1) M _ _ _ hw hP hS (lv_sub hl [2, 3, 4, 1, 5, 6, 7, 0] rfl)
      · replace hw := if_f h hw
        refine lv_iconst (pc := 212) (v := (1 : Int32)) hx hb dX9_answer_212 (by decide) ?_
        refine lv_goto (pc := 213) (tgt := 217) hx hb dX9_answer_213 (by decide) ?_
        refine lv_iadd (pc := 217) hx hb dX9_answer_217 ?_
        refine lv_topi (fun x3_218 ex3_218 => ?_)
        replace hw := hw x3_218 ex3_218
        refine lv_istore_n (pc := 218) (lv' := [(3, .int x3_218), (0, .ref (ad (29, 0, 0, 0))), (1, .int a1), (2, .int x2), (4, .int x4), (5, .int x5), (6, .int x6), (8, .int x8), (9, .int x9), (10, .int x10)]) hx hb dX9_answer_218 rfl hl (by decide) rfl (fun ls hl => ?_)
        refine lv_iinc (pc := 219) (v := x8 + 1) (lv' := [(8, .int (x8 + 1)), (3, .int x3_218), (0, .ref (ad (29, 0, 0, 0))), (1, .int a1), (2, .int x2), (4, .int x4), (5, .int x5), (6, .int x6), (9, .int x9), (10, .int x10)]) hx hb dX9_answer_219 hl (k := 7) rfl rfl (by decide) rfl (fun ls hl => ?_)
        refine lv_goto (pc := 222) (tgt := 98) hx hb dX9_answer_222 (by decide) ?_
        exact hB98 x2 x3_218 x4 x5 x6 (x8 + 1) M _ _ _ hw hP hS (lv_sub hl [2, 3, 4, 1, 5, 6, 7, 0] rfl)
    · replace hw := if_f h hw
      refine lv_iconst (pc := 138) (v := (0 : Int32)) hx hb dX9_answer_138 (by decide) ?_
      refine lv_istore (pc := 139) (lv' := [(11, .int (0 : Int32)), (0, .ref (ad (29, 0, 0, 0))), (1, .int a1), (2, .int x2), (3, .int x3), (4, .int x4), (5, .int x5), (6, .int x6), (8, .int x8), (9, .int x9), (10, .int x10)]) hx hb dX9_answer_139 hl (by decide) rfl (fun ls hl => ?_)
      obtain ⟨n0, hw⟩ := hw
      exact j_X9_answer_141 C hC h0 hB37 hB98 ih n0 x2 x3 x4 x5 x6 x8 x9 x10 (0 : Int32) M _ _ _ hw hP hS (lv_sub hl [1, 2, 3, 4, 5, 6, 7, 8, 9, 10, 0] rfl)
set_option maxHeartbeats 4000000 in
set_option maxRecDepth 100000 in
theorem j_X9_answer_98 {a1 : Int32} (C : cx p s m args meth c cX9_answer 12 (some .int) RX9 G) (hC : clo I) (h0 : I (29, 0, 0, 0)) {Q : Int32 → Mem → Prop} {B37 : Int32 → Int32 → Int32 → Int32 → Int32 → Mem → Prop} (hB37 : ∀ (x2 : Int32) (x3 : Int32) (x4 : Int32) (x5 : Int32) (x6 : Int32) (M : Mem) (H : Heap) (locs : List Loc) (ls : Array Slot), B37 x2 x3 x4 x5 x6 M → wd G I ad M H → va_S (fA I ad) s.heap H locs → lv_has ls 12 [(0, .ref (ad (29, 0, 0, 0))), (1, .int a1), (2, .int x2), (3, .int x3), (4, .int x4), (5, .int x5), (6, .int x6)] → W p l e rm_X9_answer s m args below meth c H locs 0 0 (MQ below (qI G I ad Q) args s 0 0 (fA I ad)) (F0 m 37 ls [])) : ∀ (n : Nat), ∀ (x2 : Int32) (x3 : Int32) (x4 : Int32) (x5 : Int32) (x6 : Int32) (x8 : Int32) (M : Mem) (H : Heap) (locs : List Loc) (ls : Array Slot), w_X9_answer_98 a1 Q B37 n x2 x3 x4 x5 x6 x8 M → wd G I ad M H → va_S (fA I ad) s.heap H locs → lv_has ls 12 [(0, .ref (ad (29, 0, 0, 0))), (1, .int a1), (2, .int x2), (3, .int x3), (4, .int x4), (5, .int x5), (6, .int x6), (8, .int x8)] → W p l e rm_X9_answer s m args below meth c H locs 0 0 (MQ below (qI G I ad Q) args s 0 0 (fA I ad)) (F0 m 98 ls []) := by
  have hx := C.1
  have hb := C.2.1
  have hown := C.2.2.2.1
  have hts := C.2.2.2.2.1
  intro n
  induction n with
  | zero =>
    intro x2 x3 x4 x5 x6 x8 M H locs ls hw hP hS hl
    rw [w_X9_answer_98] at hw
    exact hw.elim
  | succ n ih =>
    intro x2 x3 x4 x5 x6 x8 M H locs ls hw hP hS hl
    rw [w_X9_answer_98] at hw
    refine lv_iload (pc := 98) hx hb dX9_answer_98 (lv_at hl 7 rfl) ?_
    refine lv_aload_n (pc := 100) hx hb dX9_answer_100 rfl (lv_at hl 0 rfl) ?_
    refine gf_717 (pc := 101) C hP h0 dX9_answer_101 ?_
    refine lv_iload (pc := 104) hx hb dX9_answer_104 (lv_at hl 6 rfl) ?_
    refine r_ialdK (pc := 106) (n := 6) (k := x6.toNatClampNeg) C hP (cl_29_1 hC h0) (fun _ _ _ _ => rfl) hw.1 rfl dX9_answer_106 ?_
    replace hw := hw.2
    refine lv_icmp_ge (pc := 107) (tgt := 225) hx hb dX9_answer_107 (by decide) (fun h => ?_) (fun h => ?_)
    · replace hw := if_t h hw
      refine lv_iinc (pc := 225) (v := x6 + 1) (lv' := [(6, .int (x6 + 1)), (0, .ref (ad (29, 0, 0, 0))), (1, .int a1), (2, .int x2), (3, .int x3), (4, .int x4), (5, .int x5), (8, .int x8)]) hx hb dX9_answer_225 hl (k := 6) rfl rfl (by decide) rfl (fun ls hl => ?_)
      refine lv_goto (pc := 228) (tgt := 37) hx hb dX9_answer_228 (by decide) ?_
      exact hB37 x2 x3 x4 x5 (x6 + 1) M _ _ _ hw hP hS (lv_sub hl [1, 2, 3, 4, 5, 6, 0] rfl)
    · replace hw := if_f h hw
      refine lv_aload_n (pc := 110) hx hb dX9_answer_110 rfl (lv_at hl 0 rfl) ?_
      refine lv_iload (pc := 111) hx hb dX9_answer_111 (lv_at hl 6 rfl) ?_
      refine lv_iload (pc := 113) hx hb dX9_answer_113 (lv_at hl 7 rfl) ?_
      refine r_cVI (pc := 115) (rest := []) (As := [.int x6, .int x8]) C hl.1 hP hS (k_X9_truthOfRow l G hC h0 hw) h0 rfl rfl mw_860 mw_862 mw_42 mw_65 mw_863 ⟨rfl, rfl⟩ hd_X9_truthOfRow rfl rfl ⟨Nat.le_of_ble_eq_true rfl, Nat.le_of_ble_eq_true rfl⟩ (Nat.le_of_ble_eq_true rfl) ⟨Nat.zero_le _, Nat.zero_le _⟩ dX9_answer_115 (fun r115 M115 H locs hw hP hS => ?_)
      refine lv_iconst (pc := 118) (v := (1 : Int32)) hx hb dX9_answer_118 (by decide) ?_
      refine lv_icmp_ne (pc := 119) (tgt := 219) hx hb dX9_answer_119 (by decide) (fun h => ?_) (fun h => ?_)
      · replace hw := if_f h hw
        refine lv_iinc (pc := 219) (v := x8 + 1) (lv' := [(8, .int (x8 + 1)), (0, .ref (ad (29, 0, 0, 0))), (1, .int a1), (2, .int x2), (3, .int x3), (4, .int x4), (5, .int x5), (6, .int x6)]) hx hb dX9_answer_219 hl (k := 7) rfl rfl (by decide) rfl (fun ls hl => ?_)
        refine lv_goto (pc := 222) (tgt := 98) hx hb dX9_answer_222 (by decide) ?_
        exact ih x2 x3 x4 x5 x6 (x8 + 1) M115 _ _ _ hw hP hS (lv_sub hl [1, 2, 3, 4, 5, 6, 7, 0] rfl)
      · replace hw := if_t h hw
        refine lv_iinc (pc := 122) (v := x2 + 1) (lv' := [(2, .int (x2 + 1)), (0, .ref (ad (29, 0, 0, 0))), (1, .int a1), (3, .int x3), (4, .int x4), (5, .int x5), (6, .int x6), (8, .int x8)]) hx hb dX9_answer_122 hl (k := 2) rfl rfl (by decide) rfl (fun ls hl => ?_)
        refine lv_iconst (pc := 125) (v := (1 : Int32)) hx hb dX9_answer_125 (by decide) ?_
        refine lv_istore (pc := 126) (lv' := [(9, .int (1 : Int32)), (2, .int (x2 + 1)), (0, .ref (ad (29, 0, 0, 0))), (1, .int a1), (3, .int x3), (4, .int x4), (5, .int x5), (6, .int x6), (8, .int x8)]) hx hb dX9_answer_126 hl (by decide) rfl (fun ls hl => ?_)
        refine lv_iconst (pc := 128) (v := (0 : Int32)) hx hb dX9_answer_128 (by decide) ?_
        refine lv_istore (pc := 129) (lv' := [(10, .int (0 : Int32)), (9, .int (1 : Int32)), (2, .int (x2 + 1)), (0, .ref (ad (29, 0, 0, 0))), (1, .int a1), (3, .int x3), (4, .int x4), (5, .int x5), (6, .int x6), (8, .int x8)]) hx hb dX9_answer_129 hl (by decide) rfl (fun ls hl => ?_)
        obtain ⟨n0, hw⟩ := hw
        exact j_X9_answer_131 C hC h0 hB37 ih n0 (x2 + 1) x3 x4 x5 x6 x8 (1 : Int32) (0 : Int32) M115 _ _ _ hw hP hS (lv_sub hl [3, 4, 2, 5, 6, 7, 8, 9, 1, 0] rfl)
set_option maxHeartbeats 4000000 in
set_option maxRecDepth 100000 in
theorem j_X9_answer_37 {a1 : Int32} (C : cx p s m args meth c cX9_answer 12 (some .int) RX9 G) (hC : clo I) (h0 : I (29, 0, 0, 0)) {Q : Int32 → Mem → Prop} : ∀ (n : Nat), ∀ (x2 : Int32) (x3 : Int32) (x4 : Int32) (x5 : Int32) (x6 : Int32) (M : Mem) (H : Heap) (locs : List Loc) (ls : Array Slot), w_X9_answer_37 a1 Q n x2 x3 x4 x5 x6 M → wd G I ad M H → va_S (fA I ad) s.heap H locs → lv_has ls 12 [(0, .ref (ad (29, 0, 0, 0))), (1, .int a1), (2, .int x2), (3, .int x3), (4, .int x4), (5, .int x5), (6, .int x6)] → W p l e rm_X9_answer s m args below meth c H locs 0 0 (MQ below (qI G I ad Q) args s 0 0 (fA I ad)) (F0 m 37 ls []) := by
  have hx := C.1
  have hb := C.2.1
  have hown := C.2.2.2.1
  have hts := C.2.2.2.2.1
  intro n
  induction n with
  | zero =>
    intro x2 x3 x4 x5 x6 M H locs ls hw hP hS hl
    rw [w_X9_answer_37] at hw
    exact hw.elim
  | succ n ih =>
    intro x2 x3 x4 x5 x6 M H locs ls hw hP hS hl
    rw [w_X9_answer_37] at hw
    refine lv_iload (pc := 37) hx hb dX9_answer_37 (lv_at hl 6 rfl) ?_
    refine lv_bipush (pc := 39) (v := (6 : Int32)) hx hb dX9_answer_39 (by decide) ?_
    refine lv_icmp_ge (pc := 41) (tgt := 231) hx hb dX9_answer_41 (by decide) (fun h => ?_) (fun h => ?_)
    · replace hw := if_t h hw
      refine lv_iload_n (pc := 231) hx hb dX9_answer_231 rfl (lv_at hl 1 rfl) ?_
      refine lv_if_ne (pc := 232) (tgt := 239) hx hb dX9_answer_232 (by decide) (fun h => ?_) (fun h => ?_)
      · replace hw := if_f h hw
        refine lv_iload_n (pc := 239) hx hb dX9_answer_239 rfl (lv_at hl 1 rfl) ?_
        refine lv_iconst (pc := 240) (v := (1 : Int32)) hx hb dX9_answer_240 (by decide) ?_
        refine lv_icmp_ne (pc := 241) (tgt := 248) hx hb dX9_answer_241 (by decide) (fun h => ?_) (fun h => ?_)
        · replace hw := if_f h hw
          refine lv_iload_n (pc := 248) hx hb dX9_answer_248 rfl (lv_at hl 1 rfl) ?_
          refine lv_iconst (pc := 249) (v := (2 : Int32)) hx hb dX9_answer_249 (by decide) ?_
          refine lv_icmp_ne (pc := 250) (tgt := 258) hx hb dX9_answer_250 (by decide) (fun h => ?_) (fun h => ?_)
          · replace hw := if_f h hw
            refine lv_iload (pc := 258) hx hb dX9_answer_258 (lv_at hl 5 rfl) ?_
            exact r_iret (pc := 260) C hP hS hw dX9_answer_260
          · replace hw := if_t h hw
            refine lv_iload (pc := 253) hx hb dX9_answer_253 (lv_at hl 4 rfl) ?_
            refine lv_goto (pc := 255) (tgt := 260) hx hb dX9_answer_255 (by decide) ?_
            exact r_iret (pc := 260) C hP hS hw dX9_answer_260
        · replace hw := if_t h hw
          refine lv_iload_n (pc := 244) hx hb dX9_answer_244 rfl (lv_at hl 3 rfl) ?_
          refine lv_goto (pc := 245) (tgt := 260) hx hb dX9_answer_245 (by decide) ?_
          exact r_iret (pc := 260) C hP hS hw dX9_answer_260
      · replace hw := if_t h hw
        refine lv_iload_n (pc := 235) hx hb dX9_answer_235 rfl (lv_at hl 2 rfl) ?_
        refine lv_goto (pc := 236) (tgt := 260) hx hb dX9_answer_236 (by decide) ?_
        exact r_iret (pc := 260) C hP hS hw dX9_answer_260
    · replace hw := if_f h hw
      refine lv_aload_n (pc := 44) hx hb dX9_answer_44 rfl (lv_at hl 0 rfl) ?_
      refine lv_iload (pc := 45) hx hb dX9_answer_45 (lv_at hl 6 rfl) ?_
      refine r_cVI (pc := 47) (rest := []) (As := [.int x6]) C hl.1 hP hS (k_X9_verdictOf l G hC h0 hw) h0 rfl rfl mw_932 mw_934 mw_51 mw_65 mw_935 ⟨rfl, rfl⟩ hd_X9_verdictOf rfl rfl ⟨Nat.le_of_ble_eq_true rfl, Nat.le_of_ble_eq_true rfl⟩ (Nat.le_of_ble_eq_true rfl) ⟨Nat.zero_le _, Nat.zero_le _⟩ dX9_answer_47 (fun r47 M47 H locs hw hP hS => ?_)
      refine lv_istore (pc := 50) (lv' := [(7, .int r47), (0, .ref (ad (29, 0, 0, 0))), (1, .int a1), (2, .int x2), (3, .int x3), (4, .int x4), (5, .int x5), (6, .int x6)]) hx hb dX9_answer_50 hl (by decide) rfl (fun ls hl => ?_)
      refine lv_iload (pc := 52) hx hb dX9_answer_52 (lv_at hl 6 rfl) ?_
      refine lv_iload (pc := 54) hx hb dX9_answer_54 (lv_at hl 0 rfl) ?_
      refine lv_iload_n (pc := 56) hx hb dX9_answer_56 rfl (lv_at hl 2 rfl) ?_
      refine lv_iconst (pc := 57) (v := (3 : Int32)) hx hb dX9_answer_57 (by decide) ?_
      refine lv_isub (pc := 58) hx hb dX9_answer_58 ?_
      refine lv_icmp_ne (pc := 59) (tgt := 69) hx hb dX9_answer_59 (by decide) (fun h => ?_) (fun h => ?_)
      · replace hw := if_f h hw
        refine lv_iconst (pc := 69) (v := (0 : Int32)) hx hb dX9_answer_69 (by decide) ?_
        refine lv_ior (pc := 70) hx hb dX9_answer_70 ?_
        refine lv_topi (fun x5_71 ex5_71 => ?_)
        replace hw := hw x5_71 ex5_71
        refine lv_istore (pc := 71) (lv' := [(5, .int x5_71), (7, .int r47), (0, .ref (ad (29, 0, 0, 0))), (1, .int a1), (2, .int x2), (3, .int x3), (4, .int x4), (6, .int x6)]) hx hb dX9_answer_71 hl (by decide) rfl (fun ls hl => ?_)
        refine lv_iload (pc := 73) hx hb dX9_answer_73 (lv_at hl 6 rfl) ?_
        refine lv_iload (pc := 75) hx hb dX9_answer_75 (lv_at hl 1 rfl) ?_
        refine lv_iconst (pc := 77) (v := (2 : Int32)) hx hb dX9_answer_77 (by decide) ?_
        refine lv_icmp_ne (pc := 78) (tgt := 91) hx hb dX9_answer_78 (by decide) (fun h => ?_) (fun h => ?_)
        · replace hw := if_f h hw
          refine lv_iconst (pc := 91) (v := (0 : Int32)) hx hb dX9_answer_91 (by decide) ?_
          refine lv_iadd (pc := 92) hx hb dX9_answer_92 ?_
          refine lv_topi (fun x4_93 ex4_93 => ?_)
          replace hw := hw x4_93 ex4_93
          refine lv_istore (pc := 93) (lv' := [(4, .int x4_93), (5, .int x5_71), (7, .int r47), (0, .ref (ad (29, 0, 0, 0))), (1, .int a1), (2, .int x2), (3, .int x3), (6, .int x6)]) hx hb dX9_answer_93 hl (by decide) rfl (fun ls hl => ?_)
          refine lv_iconst (pc := 95) (v := (0 : Int32)) hx hb dX9_answer_95 (by decide) ?_
          refine lv_istore (pc := 96) (lv' := [(8, .int (0 : Int32)), (4, .int x4_93), (5, .int x5_71), (7, .int r47), (0, .ref (ad (29, 0, 0, 0))), (1, .int a1), (2, .int x2), (3, .int x3), (6, .int x6)]) hx hb dX9_answer_96 hl (by decide) rfl (fun ls hl => ?_)
          obtain ⟨n0, hw⟩ := hw
          exact j_X9_answer_98 C hC h0 ih n0 x2 x3 x4_93 x5_71 x6 (0 : Int32) M47 _ _ _ hw hP hS (lv_sub hl [4, 5, 6, 7, 1, 2, 8, 0] rfl)
        · replace hw := if_t h hw
          refine lv_aload_n (pc := 81) hx hb dX9_answer_81 rfl (lv_at hl 2 rfl) ?_
          refine gf_717 (pc := 82) C hP h0 dX9_answer_82 ?_
          refine lv_iload (pc := 85) hx hb dX9_answer_85 (lv_at hl 7 rfl) ?_
          refine r_ialdK (pc := 87) (n := 6) (k := x6.toNatClampNeg) C hP (cl_29_1 hC h0) (fun _ _ _ _ => rfl) hw.1 rfl dX9_answer_87 ?_
          replace hw := hw.2
          refine lv_goto (pc := 88) (tgt := 92) hx hb dX9_answer_88 (by decide) ?_
          refine lv_iadd (pc := 92) hx hb dX9_answer_92 ?_
          refine lv_topi (fun x4_93 ex4_93 => ?_)
          replace hw := hw x4_93 ex4_93
          refine lv_istore (pc := 93) (lv' := [(4, .int x4_93), (5, .int x5_71), (7, .int r47), (0, .ref (ad (29, 0, 0, 0))), (1, .int a1), (2, .int x2), (3, .int x3), (6, .int x6)]) hx hb dX9_answer_93 hl (by decide) rfl (fun ls hl => ?_)
          refine lv_iconst (pc := 95) (v := (0 : Int32)) hx hb dX9_answer_95 (by decide) ?_
          refine lv_istore (pc := 96) (lv' := [(8, .int (0 : Int32)), (4, .int x4_93), (5, .int x5_71), (7, .int r47), (0, .ref (ad (29, 0, 0, 0))), (1, .int a1), (2, .int x2), (3, .int x3), (6, .int x6)]) hx hb dX9_answer_96 hl (by decide) rfl (fun ls hl => ?_)
          obtain ⟨n0, hw⟩ := hw
          exact j_X9_answer_98 C hC h0 ih n0 x2 x3 x4_93 x5_71 x6 (0 : Int32) M47 _ _ _ hw hP hS (lv_sub hl [4, 5, 6, 7, 1, 2, 8, 0] rfl)
      · replace hw := if_t h hw
        refine lv_iconst (pc := 62) (v := (1 : Int32)) hx hb dX9_answer_62 (by decide) ?_
        refine lv_iload (pc := 63) hx hb dX9_answer_63 (lv_at hl 7 rfl) ?_
        refine lv_ishl (pc := 65) hx hb dX9_answer_65 ?_
        refine lv_goto (pc := 66) (tgt := 70) hx hb dX9_answer_66 (by decide) ?_
        refine lv_ior (pc := 70) hx hb dX9_answer_70 ?_
        refine lv_topi (fun x5_71 ex5_71 => ?_)
        replace hw := hw x5_71 ex5_71
        refine lv_istore (pc := 71) (lv' := [(5, .int x5_71), (7, .int r47), (0, .ref (ad (29, 0, 0, 0))), (1, .int a1), (2, .int x2), (3, .int x3), (4, .int x4), (6, .int x6)]) hx hb dX9_answer_71 hl (by decide) rfl (fun ls hl => ?_)
        refine lv_iload (pc := 73) hx hb dX9_answer_73 (lv_at hl 6 rfl) ?_
        refine lv_iload (pc := 75) hx hb dX9_answer_75 (lv_at hl 1 rfl) ?_
        refine lv_iconst (pc := 77) (v := (2 : Int32)) hx hb dX9_answer_77 (by decide) ?_
        refine lv_icmp_ne (pc := 78) (tgt := 91) hx hb dX9_answer_78 (by decide) (fun h => ?_) (fun h => ?_)
        · replace hw := if_f h hw
          refine lv_iconst (pc := 91) (v := (0 : Int32)) hx hb dX9_answer_91 (by decide) ?_
          refine lv_iadd (pc := 92) hx hb dX9_answer_92 ?_
          refine lv_topi (fun x4_93 ex4_93 => ?_)
          replace hw := hw x4_93 ex4_93
          refine lv_istore (pc := 93) (lv' := [(4, .int x4_93), (5, .int x5_71), (7, .int r47), (0, .ref (ad (29, 0, 0, 0))), (1, .int a1), (2, .int x2), (3, .int x3), (6, .int x6)]) hx hb dX9_answer_93 hl (by decide) rfl (fun ls hl => ?_)
          refine lv_iconst (pc := 95) (v := (0 : Int32)) hx hb dX9_answer_95 (by decide) ?_
          refine lv_istore (pc := 96) (lv' := [(8, .int (0 : Int32)), (4, .int x4_93), (5, .int x5_71), (7, .int r47), (0, .ref (ad (29, 0, 0, 0))), (1, .int a1), (2, .int x2), (3, .int x3), (6, .int x6)]) hx hb dX9_answer_96 hl (by decide) rfl (fun ls hl => ?_)
          obtain ⟨n0, hw⟩ := hw
          exact j_X9_answer_98 C hC h0 ih n0 x2 x3 x4_93 x5_71 x6 (0 : Int32) M47 _ _ _ hw hP hS (lv_sub hl [4, 5, 6, 7, 1, 2, 8, 0] rfl)
        · replace hw := if_t h hw
          refine lv_aload_n (pc := 81) hx hb dX9_answer_81 rfl (lv_at hl 2 rfl) ?_
          refine gf_717 (pc := 82) C hP h0 dX9_answer_82 ?_
          refine lv_iload (pc := 85) hx hb dX9_answer_85 (lv_at hl 7 rfl) ?_
          refine r_ialdK (pc := 87) (n := 6) (k := x6.toNatClampNeg) C hP (cl_29_1 hC h0) (fun _ _ _ _ => rfl) hw.1 rfl dX9_answer_87 ?_
          replace hw := hw.2
          refine lv_goto (pc := 88) (tgt := 92) hx hb dX9_answer_88 (by decide) ?_
          refine lv_iadd (pc := 92) hx hb dX9_answer_92 ?_
          refine lv_topi (fun x4_93 ex4_93 => ?_)
          replace hw := hw x4_93 ex4_93
          refine lv_istore (pc := 93) (lv' := [(4, .int x4_93), (5, .int x5_71), (7, .int r47), (0, .ref (ad (29, 0, 0, 0))), (1, .int a1), (2, .int x2), (3, .int x3), (6, .int x6)]) hx hb dX9_answer_93 hl (by decide) rfl (fun ls hl => ?_)
          refine lv_iconst (pc := 95) (v := (0 : Int32)) hx hb dX9_answer_95 (by decide) ?_
          refine lv_istore (pc := 96) (lv' := [(8, .int (0 : Int32)), (4, .int x4_93), (5, .int x5_71), (7, .int r47), (0, .ref (ad (29, 0, 0, 0))), (1, .int a1), (2, .int x2), (3, .int x3), (6, .int x6)]) hx hb dX9_answer_96 hl (by decide) rfl (fun ls hl => ?_)
          obtain ⟨n0, hw⟩ := hw
          exact j_X9_answer_98 C hC h0 ih n0 x2 x3 x4_93 x5_71 x6 (0 : Int32) M47 _ _ _ hw hP hS (lv_sub hl [4, 5, 6, 7, 1, 2, 8, 0] rfl)
set_option maxHeartbeats 4000000 in
set_option maxRecDepth 100000 in
theorem j_X9_answer_0 {a1 : Int32} (C : cx p s m args meth c cX9_answer 12 (some .int) RX9 G) (hC : clo I) (h0 : I (29, 0, 0, 0)) {Q : Int32 → Mem → Prop} : ∀ (M : Mem) (H : Heap) (locs : List Loc) (ls : Array Slot), w_X9_answer a1 Q M → wd G I ad M H → va_S (fA I ad) s.heap H locs → lv_has ls 12 [(0, .ref (ad (29, 0, 0, 0))), (1, .int a1)] → W p l e rm_X9_answer s m args below meth c H locs 0 0 (MQ below (qI G I ad Q) args s 0 0 (fA I ad)) (F0 m 0 ls []) := by
  have hx := C.1
  have hb := C.2.1
  have hown := C.2.2.2.1
  have hts := C.2.2.2.2.1
  intro M H locs ls hw hP hS hl
  unfold w_X9_answer at hw
  refine lv_iload_n (pc := 0) hx hb dX9_answer_0 rfl (lv_at hl 1 rfl) ?_
  refine lv_iconst (pc := 1) (v := (0 : Int32)) hx hb dX9_answer_1 (by decide) ?_
  refine lv_iconst (pc := 2) (v := (5 : Int32)) hx hb dX9_answer_2 (by decide) ?_
  refine r_cSI (pc := 3) (rest := []) (As := [.int a1, .int (0 : Int32), .int (5 : Int32)]) C hl.1 hP hS (k_X9_in l G hC  hw) mw_779 mw_780 mw_65 mw_781 ⟨rfl, rfl⟩ hd_X9_in rfl rfl ⟨Nat.le_of_ble_eq_true rfl, Nat.le_of_ble_eq_true rfl⟩ (Nat.le_of_ble_eq_true rfl) ⟨Nat.zero_le _, Nat.zero_le _⟩ dX9_answer_3 (fun r3 M3 H locs hw hP hS => ?_)
  refine lv_if_ne (pc := 6) (tgt := 12) hx hb dX9_answer_6 (by decide) (fun h => ?_) (fun h => ?_)
  · replace hw := if_f h hw
    refine lv_aload_n (pc := 12) hx hb dX9_answer_12 rfl (lv_at hl 0 rfl) ?_
    refine r_cVI (pc := 13) (rest := []) (As := []) C hl.1 hP hS (k_X9_read l G hC h0 hw) h0 rfl rfl mw_843 mw_845 mw_41 mw_65 mw_846 ⟨rfl, rfl⟩ hd_X9_read rfl rfl ⟨Nat.le_of_ble_eq_true rfl, Nat.le_of_ble_eq_true rfl⟩ (Nat.le_of_ble_eq_true rfl) ⟨Nat.zero_le _, Nat.zero_le _⟩ dX9_answer_13 (fun r13 M13 H locs hw hP hS => ?_)
    refine lv_ldc (pc := 16) (own := RX9) (v := (-2000000 : Int32)) hx hb hown (hts _ mw_715) dX9_answer_16 ?_
    refine lv_icmp_eq (pc := 18) (tgt := 24) hx hb dX9_answer_18 (by decide) (fun h => ?_) (fun h => ?_)
    · replace hw := if_t h hw
      refine lv_iconst (pc := 24) (v := (0 : Int32)) hx hb dX9_answer_24 (by decide) ?_
      refine lv_istore_n (pc := 25) (lv' := [(2, .int (0 : Int32)), (0, .ref (ad (29, 0, 0, 0))), (1, .int a1)]) hx hb dX9_answer_25 rfl hl (by decide) rfl (fun ls hl => ?_)
      refine lv_iconst (pc := 26) (v := (0 : Int32)) hx hb dX9_answer_26 (by decide) ?_
      refine lv_istore_n (pc := 27) (lv' := [(3, .int (0 : Int32)), (2, .int (0 : Int32)), (0, .ref (ad (29, 0, 0, 0))), (1, .int a1)]) hx hb dX9_answer_27 rfl hl (by decide) rfl (fun ls hl => ?_)
      refine lv_iconst (pc := 28) (v := (0 : Int32)) hx hb dX9_answer_28 (by decide) ?_
      refine lv_istore (pc := 29) (lv' := [(4, .int (0 : Int32)), (3, .int (0 : Int32)), (2, .int (0 : Int32)), (0, .ref (ad (29, 0, 0, 0))), (1, .int a1)]) hx hb dX9_answer_29 hl (by decide) rfl (fun ls hl => ?_)
      refine lv_iconst (pc := 31) (v := (0 : Int32)) hx hb dX9_answer_31 (by decide) ?_
      refine lv_istore (pc := 32) (lv' := [(5, .int (0 : Int32)), (4, .int (0 : Int32)), (3, .int (0 : Int32)), (2, .int (0 : Int32)), (0, .ref (ad (29, 0, 0, 0))), (1, .int a1)]) hx hb dX9_answer_32 hl (by decide) rfl (fun ls hl => ?_)
      refine lv_iconst (pc := 34) (v := (0 : Int32)) hx hb dX9_answer_34 (by decide) ?_
      refine lv_istore (pc := 35) (lv' := [(6, .int (0 : Int32)), (5, .int (0 : Int32)), (4, .int (0 : Int32)), (3, .int (0 : Int32)), (2, .int (0 : Int32)), (0, .ref (ad (29, 0, 0, 0))), (1, .int a1)]) hx hb dX9_answer_35 hl (by decide) rfl (fun ls hl => ?_)
      obtain ⟨n0, hw⟩ := hw
      exact j_X9_answer_37 C hC h0 n0 (0 : Int32) (0 : Int32) (0 : Int32) (0 : Int32) (0 : Int32) M13 _ _ _ hw hP hS (lv_sub hl [5, 6, 4, 3, 2, 1, 0] rfl)
    · replace hw := if_f h hw
      refine lv_bipush (pc := 21) (v := (-5 : Int32)) hx hb dX9_answer_21 (by decide) ?_
      exact r_iret (pc := 23) C hP hS hw dX9_answer_23
  · replace hw := if_t h hw
    refine lv_bipush (pc := 9) (v := (-2 : Int32)) hx hb dX9_answer_9 (by decide) ?_
    exact r_iret (pc := 11) C hP hS hw dX9_answer_11
end
theorem k_X9_answer (l : Launch) (G : GG) {I : ix → Prop} {ad : ix → Nat} (hC : clo I) {a1 : Int32} (h0 : I (29, 0, 0, 0)) {Q : Int32 → Mem → Prop} {M : Mem} (hw : w_X9_answer a1 Q M) : Met l yX9_answer (wW yX9_answer cX9_answer 12 (some .int)) rm_X9_answer (va_Pc [.ref (ad (29, 0, 0, 0)), .int a1] (fun U => wd G I ad M U.heap ∧ wK G U)) (qI G I ad Q) 0 0 (fA I ad) := met_of (by decide +kernel) (Nat.le_of_ble_eq_true rfl) (fun p e s m below meth c C hP hS ls hl => j_X9_answer_0 C hC h0 _ _ _ _ hw hP hS hl)
section
variable {p : Program} {l : Launch} {e : Env} {s : State} {m : MethodId} {args : Array Value} {below : List Frame} {meth : Method} {c : Code} 
variable  {G : GG} {I : ix → Prop} {ad : ix → Nat}
set_option maxHeartbeats 4000000 in
set_option maxRecDepth 100000 in
theorem j_X9_total_109 {a1 : Int32} {a2 : Int32} (C : cx p s m args meth c cX9_total 12 (some .int) RX9 G) (hC : clo I) (h0 : I (29, 0, 0, 0)) {Q : Int32 → Mem → Prop} {B53 : Int32 → Int32 → Int32 → Int32 → Int32 → Int32 → Mem → Prop} (hB53 : ∀ (x3 : Int32) (x4 : Int32) (x5 : Int32) (x6 : Int32) (x7 : Int32) (x8 : Int32) (M : Mem) (H : Heap) (locs : List Loc) (ls : Array Slot), B53 x3 x4 x5 x6 x7 x8 M → wd G I ad M H → va_S (fA I ad) s.heap H locs → lv_has ls 12 [(0, .ref (ad (29, 0, 0, 0))), (1, .int a1), (2, .int a2), (3, .int x3), (4, .int x4), (5, .int x5), (6, .int x6), (7, .int x7), (8, .int x8)] → W p l e rm_X9_total s m args below meth c H locs 0 0 (MQ below (qI G I ad Q) args s 0 0 (fA I ad)) (F0 m 53 ls [])) : ∀ (n : Nat), ∀ (x3 : Int32) (x4 : Int32) (x5 : Int32) (x6 : Int32) (x7 : Int32) (x8 : Int32) (x10 : Int32) (M : Mem) (H : Heap) (locs : List Loc) (ls : Array Slot), w_X9_total_109 a1 a2 Q B53 n x3 x4 x5 x6 x7 x8 x10 M → wd G I ad M H → va_S (fA I ad) s.heap H locs → lv_has ls 12 [(0, .ref (ad (29, 0, 0, 0))), (1, .int a1), (2, .int a2), (3, .int x3), (4, .int x4), (5, .int x5), (6, .int x6), (7, .int x7), (8, .int x8), (10, .int x10)] → W p l e rm_X9_total s m args below meth c H locs 0 0 (MQ below (qI G I ad Q) args s 0 0 (fA I ad)) (F0 m 109 ls []) := by
  have hx := C.1
  have hb := C.2.1
  have hown := C.2.2.2.1
  have hts := C.2.2.2.2.1
  intro n
  induction n with
  | zero =>
    intro x3 x4 x5 x6 x7 x8 x10 M H locs ls hw hP hS hl
    rw [w_X9_total_109] at hw
    exact hw.elim
  | succ n ih =>
    intro x3 x4 x5 x6 x7 x8 x10 M H locs ls hw hP hS hl
    rw [w_X9_total_109] at hw
    refine lv_iload (pc := 109) hx hb dX9_total_109 (lv_at hl 9 rfl) ?_
    refine lv_aload_n (pc := 111) hx hb dX9_total_111 rfl (lv_at hl 0 rfl) ?_
    refine gf_717 (pc := 112) C hP h0 dX9_total_112 ?_
    refine lv_iload (pc := 115) hx hb dX9_total_115 (lv_at hl 8 rfl) ?_
    refine r_ialdK (pc := 117) (n := 6) (k := x8.toNatClampNeg) C hP (cl_29_1 hC h0) (fun _ _ _ _ => rfl) hw.1 rfl dX9_total_117 ?_
    replace hw := hw.2
    refine lv_icmp_ge (pc := 118) (tgt := 213) hx hb dX9_total_118 (by decide) (fun h => ?_) (fun h => ?_)
    · replace hw := if_t h hw
      refine lv_iinc (pc := 213) (v := x8 + 1) (lv' := [(8, .int (x8 + 1)), (0, .ref (ad (29, 0, 0, 0))), (1, .int a1), (2, .int a2), (3, .int x3), (4, .int x4), (5, .int x5), (6, .int x6), (7, .int x7), (10, .int x10)]) hx hb dX9_total_213 hl (k := 8) rfl rfl (by decide) rfl (fun ls hl => ?_)
      refine lv_goto (pc := 216) (tgt := 53) hx hb dX9_total_216 (by decide) ?_
      exact hB53 x3 x4 x5 x6 x7 (x8 + 1) M _ _ _ hw hP hS (lv_sub hl [1, 2, 3, 4, 5, 6, 7, 8, 0] rfl)
    · replace hw := if_f h hw
      refine lv_aload_n (pc := 121) hx hb dX9_total_121 rfl (lv_at hl 0 rfl) ?_
      refine lv_iload (pc := 122) hx hb dX9_total_122 (lv_at hl 8 rfl) ?_
      refine lv_iload (pc := 124) hx hb dX9_total_124 (lv_at hl 9 rfl) ?_
      refine r_cVI (pc := 126) (rest := []) (As := [.int x8, .int x10]) C hl.1 hP hS (k_X9_truthOfRow l G hC h0 hw) h0 rfl rfl mw_860 mw_862 mw_42 mw_65 mw_863 ⟨rfl, rfl⟩ hd_X9_truthOfRow rfl rfl ⟨Nat.le_of_ble_eq_true rfl, Nat.le_of_ble_eq_true rfl⟩ (Nat.le_of_ble_eq_true rfl) ⟨Nat.zero_le _, Nat.zero_le _⟩ dX9_total_126 (fun r126 M126 H locs hw hP hS => ?_)
      refine lv_iconst (pc := 129) (v := (1 : Int32)) hx hb dX9_total_129 (by decide) ?_
      refine lv_icmp_ne (pc := 130) (tgt := 207) hx hb dX9_total_130 (by decide) (fun h => ?_) (fun h => ?_)
      · replace hw := if_f h hw
        refine lv_iinc (pc := 207) (v := x10 + 1) (lv' := [(10, .int (x10 + 1)), (0, .ref (ad (29, 0, 0, 0))), (1, .int a1), (2, .int a2), (3, .int x3), (4, .int x4), (5, .int x5), (6, .int x6), (7, .int x7), (8, .int x8)]) hx hb dX9_total_207 hl (k := 9) rfl rfl (by decide) rfl (fun ls hl => ?_)
        refine lv_goto (pc := 210) (tgt := 109) hx hb dX9_total_210 (by decide) ?_
        exact ih x3 x4 x5 x6 x7 x8 (x10 + 1) M126 _ _ _ hw hP hS (lv_sub hl [1, 2, 3, 4, 5, 6, 7, 8, 9, 0] rfl)
      · replace hw := if_t h hw
        refine lv_aload_n (pc := 133) hx hb dX9_total_133 rfl (lv_at hl 0 rfl) ?_
        refine lv_iload (pc := 134) hx hb dX9_total_134 (lv_at hl 8 rfl) ?_
        refine lv_iload (pc := 136) hx hb dX9_total_136 (lv_at hl 9 rfl) ?_
        refine lv_iload_n (pc := 138) hx hb dX9_total_138 rfl (lv_at hl 1 rfl) ?_
        refine r_cVI (pc := 139) (rest := []) (As := [.int x8, .int x10, .int a1]) C hl.1 hP hS (k_X9_at l G hC h0 hw) h0 rfl rfl mw_798 mw_800 mw_38 mw_65 mw_801 ⟨rfl, rfl⟩ hd_X9_at rfl rfl ⟨Nat.le_of_ble_eq_true rfl, Nat.le_of_ble_eq_true rfl⟩ (Nat.le_of_ble_eq_true rfl) ⟨Nat.zero_le _, Nat.zero_le _⟩ dX9_total_139 (fun r139 M139 H locs hw hP hS => ?_)
        refine lv_istore (pc := 142) (lv' := [(11, .int r139), (0, .ref (ad (29, 0, 0, 0))), (1, .int a1), (2, .int a2), (3, .int x3), (4, .int x4), (5, .int x5), (6, .int x6), (7, .int x7), (8, .int x8), (10, .int x10)]) hx hb dX9_total_142 hl (by decide) rfl (fun ls hl => ?_)
        refine lv_iload (pc := 144) hx hb dX9_total_144 (lv_at hl 0 rfl) ?_
        refine lv_sipush (pc := 146) (v := (1000 : Int32)) hx hb dX9_total_146 (by decide) ?_
        refine lv_icmp_ne (pc := 149) (tgt := 158) hx hb dX9_total_149 (by decide) (fun h => ?_) (fun h => ?_)
        · replace hw := if_f h hw
          refine lv_iload_n (pc := 158) hx hb dX9_total_158 rfl (lv_at hl 4 rfl) ?_
          refine lv_ldc (pc := 159) (own := RX9) (v := (-2000000 : Int32)) hx hb hown (hts _ mw_715) dX9_total_159 ?_
          refine lv_icmp_eq (pc := 161) (tgt := 170) hx hb dX9_total_161 (by decide) (fun h => ?_) (fun h => ?_)
          · replace hw := if_t h hw
            refine lv_iload (pc := 170) hx hb dX9_total_170 (lv_at hl 0 rfl) ?_
            refine lv_goto (pc := 172) (tgt := 176) hx hb dX9_total_172 (by decide) ?_
            refine lv_istore_n (pc := 176) (lv' := [(3, .int r139), (11, .int r139), (0, .ref (ad (29, 0, 0, 0))), (1, .int a1), (2, .int a2), (4, .int x4), (5, .int x5), (6, .int x6), (7, .int x7), (8, .int x8), (10, .int x10)]) hx hb dX9_total_176 rfl hl (by decide) rfl (fun ls hl => ?_)
            refine lv_iload (pc := 177) hx hb dX9_total_177 (lv_at hl 5 rfl) ?_
            refine lv_ldc (pc := 179) (own := RX9) (v := (-2000000 : Int32)) hx hb hown (hts _ mw_715) dX9_total_179 ?_
            refine lv_icmp_eq (pc := 181) (tgt := 191) hx hb dX9_total_181 (by decide) (fun h => ?_) (fun h => ?_)
            · replace hw := if_t h hw
              refine lv_iload (pc := 191) hx hb dX9_total_191 (lv_at hl 1 rfl) ?_
              refine lv_goto (pc := 193) (tgt := 198) hx hb dX9_total_193 (by decide) ?_
              refine lv_istore (pc := 198) (lv' := [(4, .int r139), (3, .int r139), (11, .int r139), (0, .ref (ad (29, 0, 0, 0))), (1, .int a1), (2, .int a2), (5, .int x5), (6, .int x6), (7, .int x7), (8, .int x8), (10, .int x10)]) hx hb dX9_total_198 hl (by decide) rfl (fun ls hl => ?_)
              refine lv_iload (pc := 200) hx hb dX9_total_200 (lv_at hl 6 rfl) ?_
              refine lv_iload (pc := 202) hx hb dX9_total_202 (lv_at hl 2 rfl) ?_
              refine lv_iadd (pc := 204) hx hb dX9_total_204 ?_
              refine lv_topi (fun x5_205 ex5_205 => ?_)
              replace hw := hw x5_205 ex5_205
              refine lv_istore (pc := 205) (lv' := [(5, .int x5_205), (4, .int r139), (3, .int r139), (11, .int r139), (0, .ref (ad (29, 0, 0, 0))), (1, .int a1), (2, .int a2), (6, .int x6), (7, .int x7), (8, .int x8), (10, .int x10)]) hx hb dX9_total_205 hl (by decide) rfl (fun ls hl => ?_)
              refine lv_iinc (pc := 207) (v := x10 + 1) (lv' := [(10, .int (x10 + 1)), (5, .int x5_205), (4, .int r139), (3, .int r139), (11, .int r139), (0, .ref (ad (29, 0, 0, 0))), (1, .int a1), (2, .int a2), (6, .int x6), (7, .int x7), (8, .int x8)]) hx hb dX9_total_207 hl (k := 10) rfl rfl (by decide) rfl (fun ls hl => ?_)
              refine lv_goto (pc := 210) (tgt := 109) hx hb dX9_total_210 (by decide) ?_
              exact ih r139 r139 x5_205 x6 x7 x8 (x10 + 1) M139 _ _ _ hw hP hS (lv_sub hl [5, 6, 7, 3, 2, 1, 8, 9, 10, 0] rfl)
            · replace hw := if_f h hw
              refine lv_iload (pc := 184) hx hb dX9_total_184 (lv_at hl 1 rfl) ?_
              refine lv_iload (pc := 186) hx hb dX9_total_186 (lv_at hl 5 rfl) ?_
              refine lv_icmp_le (pc := 188) (tgt := 196) hx hb dX9_total_188 (by decide) (fun h => ?_) (fun h => ?_)
              · replace hw := if_t h hw
                refine lv_iload (pc := 196) hx hb dX9_total_196 (lv_at hl 5 rfl) ?_
                refine lv_istore (pc := 198) (lv' := [(4, .int x4), (3, .int r139), (11, .int r139), (0, .ref (ad (29, 0, 0, 0))), (1, .int a1), (2, .int a2), (5, .int x5), (6, .int x6), (7, .int x7), (8, .int x8), (10, .int x10)]) hx hb dX9_total_198 hl (by decide) rfl (fun ls hl => ?_)
                refine lv_iload (pc := 200) hx hb dX9_total_200 (lv_at hl 6 rfl) ?_
                refine lv_iload (pc := 202) hx hb dX9_total_202 (lv_at hl 2 rfl) ?_
                refine lv_iadd (pc := 204) hx hb dX9_total_204 ?_
                refine lv_topi (fun x5_205 ex5_205 => ?_)
                replace hw := hw x5_205 ex5_205
                refine lv_istore (pc := 205) (lv' := [(5, .int x5_205), (4, .int x4), (3, .int r139), (11, .int r139), (0, .ref (ad (29, 0, 0, 0))), (1, .int a1), (2, .int a2), (6, .int x6), (7, .int x7), (8, .int x8), (10, .int x10)]) hx hb dX9_total_205 hl (by decide) rfl (fun ls hl => ?_)
                refine lv_iinc (pc := 207) (v := x10 + 1) (lv' := [(10, .int (x10 + 1)), (5, .int x5_205), (4, .int x4), (3, .int r139), (11, .int r139), (0, .ref (ad (29, 0, 0, 0))), (1, .int a1), (2, .int a2), (6, .int x6), (7, .int x7), (8, .int x8)]) hx hb dX9_total_207 hl (k := 10) rfl rfl (by decide) rfl (fun ls hl => ?_)
                refine lv_goto (pc := 210) (tgt := 109) hx hb dX9_total_210 (by decide) ?_
                exact ih r139 x4 x5_205 x6 x7 x8 (x10 + 1) M139 _ _ _ hw hP hS (lv_sub hl [5, 6, 7, 3, 2, 1, 8, 9, 10, 0] rfl)
              · replace hw := if_f h hw
                refine lv_iload (pc := 191) hx hb dX9_total_191 (lv_at hl 1 rfl) ?_
                refine lv_goto (pc := 193) (tgt := 198) hx hb dX9_total_193 (by decide) ?_
                refine lv_istore (pc := 198) (lv' := [(4, .int r139), (3, .int r139), (11, .int r139), (0, .ref (ad (29, 0, 0, 0))), (1, .int a1), (2, .int a2), (5, .int x5), (6, .int x6), (7, .int x7), (8, .int x8), (10, .int x10)]) hx hb dX9_total_198 hl (by decide) rfl (fun ls hl => ?_)
                refine lv_iload (pc := 200) hx hb dX9_total_200 (lv_at hl 6 rfl) ?_
                refine lv_iload (pc := 202) hx hb dX9_total_202 (lv_at hl 2 rfl) ?_
                refine lv_iadd (pc := 204) hx hb dX9_total_204 ?_
                refine lv_topi (fun x5_205 ex5_205 => ?_)
                replace hw := hw x5_205 ex5_205
                refine lv_istore (pc := 205) (lv' := [(5, .int x5_205), (4, .int r139), (3, .int r139), (11, .int r139), (0, .ref (ad (29, 0, 0, 0))), (1, .int a1), (2, .int a2), (6, .int x6), (7, .int x7), (8, .int x8), (10, .int x10)]) hx hb dX9_total_205 hl (by decide) rfl (fun ls hl => ?_)
                refine lv_iinc (pc := 207) (v := x10 + 1) (lv' := [(10, .int (x10 + 1)), (5, .int x5_205), (4, .int r139), (3, .int r139), (11, .int r139), (0, .ref (ad (29, 0, 0, 0))), (1, .int a1), (2, .int a2), (6, .int x6), (7, .int x7), (8, .int x8)]) hx hb dX9_total_207 hl (k := 10) rfl rfl (by decide) rfl (fun ls hl => ?_)
                refine lv_goto (pc := 210) (tgt := 109) hx hb dX9_total_210 (by decide) ?_
                exact ih r139 r139 x5_205 x6 x7 x8 (x10 + 1) M139 _ _ _ hw hP hS (lv_sub hl [5, 6, 7, 3, 2, 1, 8, 9, 10, 0] rfl)
          · replace hw := if_f h hw
            refine lv_iload (pc := 164) hx hb dX9_total_164 (lv_at hl 0 rfl) ?_
            refine lv_iload_n (pc := 166) hx hb dX9_total_166 rfl (lv_at hl 4 rfl) ?_
            refine lv_icmp_ge (pc := 167) (tgt := 175) hx hb dX9_total_167 (by decide) (fun h => ?_) (fun h => ?_)
            · replace hw := if_t h hw
              refine lv_iload_n (pc := 175) hx hb dX9_total_175 rfl (lv_at hl 4 rfl) ?_
              refine lv_istore_n (pc := 176) (lv' := [(3, .int x3), (11, .int r139), (0, .ref (ad (29, 0, 0, 0))), (1, .int a1), (2, .int a2), (4, .int x4), (5, .int x5), (6, .int x6), (7, .int x7), (8, .int x8), (10, .int x10)]) hx hb dX9_total_176 rfl hl (by decide) rfl (fun ls hl => ?_)
              refine lv_iload (pc := 177) hx hb dX9_total_177 (lv_at hl 5 rfl) ?_
              refine lv_ldc (pc := 179) (own := RX9) (v := (-2000000 : Int32)) hx hb hown (hts _ mw_715) dX9_total_179 ?_
              refine lv_icmp_eq (pc := 181) (tgt := 191) hx hb dX9_total_181 (by decide) (fun h => ?_) (fun h => ?_)
              · replace hw := if_t h hw
                refine lv_iload (pc := 191) hx hb dX9_total_191 (lv_at hl 1 rfl) ?_
                refine lv_goto (pc := 193) (tgt := 198) hx hb dX9_total_193 (by decide) ?_
                refine lv_istore (pc := 198) (lv' := [(4, .int r139), (3, .int x3), (11, .int r139), (0, .ref (ad (29, 0, 0, 0))), (1, .int a1), (2, .int a2), (5, .int x5), (6, .int x6), (7, .int x7), (8, .int x8), (10, .int x10)]) hx hb dX9_total_198 hl (by decide) rfl (fun ls hl => ?_)
                refine lv_iload (pc := 200) hx hb dX9_total_200 (lv_at hl 6 rfl) ?_
                refine lv_iload (pc := 202) hx hb dX9_total_202 (lv_at hl 2 rfl) ?_
                refine lv_iadd (pc := 204) hx hb dX9_total_204 ?_
                refine lv_topi (fun x5_205 ex5_205 => ?_)
                replace hw := hw x5_205 ex5_205
                refine lv_istore (pc := 205) (lv' := [(5, .int x5_205), (4, .int r139), (3, .int x3), (11, .int r139), (0, .ref (ad (29, 0, 0, 0))), (1, .int a1), (2, .int a2), (6, .int x6), (7, .int x7), (8, .int x8), (10, .int x10)]) hx hb dX9_total_205 hl (by decide) rfl (fun ls hl => ?_)
                refine lv_iinc (pc := 207) (v := x10 + 1) (lv' := [(10, .int (x10 + 1)), (5, .int x5_205), (4, .int r139), (3, .int x3), (11, .int r139), (0, .ref (ad (29, 0, 0, 0))), (1, .int a1), (2, .int a2), (6, .int x6), (7, .int x7), (8, .int x8)]) hx hb dX9_total_207 hl (k := 10) rfl rfl (by decide) rfl (fun ls hl => ?_)
                refine lv_goto (pc := 210) (tgt := 109) hx hb dX9_total_210 (by decide) ?_
                exact ih x3 r139 x5_205 x6 x7 x8 (x10 + 1) M139 _ _ _ hw hP hS (lv_sub hl [5, 6, 7, 3, 2, 1, 8, 9, 10, 0] rfl)
              · replace hw := if_f h hw
                refine lv_iload (pc := 184) hx hb dX9_total_184 (lv_at hl 1 rfl) ?_
                refine lv_iload (pc := 186) hx hb dX9_total_186 (lv_at hl 5 rfl) ?_
                refine lv_icmp_le (pc := 188) (tgt := 196) hx hb dX9_total_188 (by decide) (fun h => ?_) (fun h => ?_)
                · replace hw := if_t h hw
                  refine lv_iload (pc := 196) hx hb dX9_total_196 (lv_at hl 5 rfl) ?_
                  refine lv_istore (pc := 198) (lv' := [(4, .int x4), (3, .int x3), (11, .int r139), (0, .ref (ad (29, 0, 0, 0))), (1, .int a1), (2, .int a2), (5, .int x5), (6, .int x6), (7, .int x7), (8, .int x8), (10, .int x10)]) hx hb dX9_total_198 hl (by decide) rfl (fun ls hl => ?_)
                  refine lv_iload (pc := 200) hx hb dX9_total_200 (lv_at hl 6 rfl) ?_
                  refine lv_iload (pc := 202) hx hb dX9_total_202 (lv_at hl 2 rfl) ?_
                  refine lv_iadd (pc := 204) hx hb dX9_total_204 ?_
                  refine lv_topi (fun x5_205 ex5_205 => ?_)
                  replace hw := hw x5_205 ex5_205
                  refine lv_istore (pc := 205) (lv' := [(5, .int x5_205), (4, .int x4), (3, .int x3), (11, .int r139), (0, .ref (ad (29, 0, 0, 0))), (1, .int a1), (2, .int a2), (6, .int x6), (7, .int x7), (8, .int x8), (10, .int x10)]) hx hb dX9_total_205 hl (by decide) rfl (fun ls hl => ?_)
                  refine lv_iinc (pc := 207) (v := x10 + 1) (lv' := [(10, .int (x10 + 1)), (5, .int x5_205), (4, .int x4), (3, .int x3), (11, .int r139), (0, .ref (ad (29, 0, 0, 0))), (1, .int a1), (2, .int a2), (6, .int x6), (7, .int x7), (8, .int x8)]) hx hb dX9_total_207 hl (k := 10) rfl rfl (by decide) rfl (fun ls hl => ?_)
                  refine lv_goto (pc := 210) (tgt := 109) hx hb dX9_total_210 (by decide) ?_
                  exact ih x3 x4 x5_205 x6 x7 x8 (x10 + 1) M139 _ _ _ hw hP hS (lv_sub hl [5, 6, 7, 3, 2, 1, 8, 9, 10, 0] rfl)
                · replace hw := if_f h hw
                  refine lv_iload (pc := 191) hx hb dX9_total_191 (lv_at hl 1 rfl) ?_
                  refine lv_goto (pc := 193) (tgt := 198) hx hb dX9_total_193 (by decide) ?_
                  refine lv_istore (pc := 198) (lv' := [(4, .int r139), (3, .int x3), (11, .int r139), (0, .ref (ad (29, 0, 0, 0))), (1, .int a1), (2, .int a2), (5, .int x5), (6, .int x6), (7, .int x7), (8, .int x8), (10, .int x10)]) hx hb dX9_total_198 hl (by decide) rfl (fun ls hl => ?_)
                  refine lv_iload (pc := 200) hx hb dX9_total_200 (lv_at hl 6 rfl) ?_
                  refine lv_iload (pc := 202) hx hb dX9_total_202 (lv_at hl 2 rfl) ?_
                  refine lv_iadd (pc := 204) hx hb dX9_total_204 ?_
                  refine lv_topi (fun x5_205 ex5_205 => ?_)
                  replace hw := hw x5_205 ex5_205
                  refine lv_istore (pc := 205) (lv' := [(5, .int x5_205), (4, .int r139), (3, .int x3), (11, .int r139), (0, .ref (ad (29, 0, 0, 0))), (1, .int a1), (2, .int a2), (6, .int x6), (7, .int x7), (8, .int x8), (10, .int x10)]) hx hb dX9_total_205 hl (by decide) rfl (fun ls hl => ?_)
                  refine lv_iinc (pc := 207) (v := x10 + 1) (lv' := [(10, .int (x10 + 1)), (5, .int x5_205), (4, .int r139), (3, .int x3), (11, .int r139), (0, .ref (ad (29, 0, 0, 0))), (1, .int a1), (2, .int a2), (6, .int x6), (7, .int x7), (8, .int x8)]) hx hb dX9_total_207 hl (k := 10) rfl rfl (by decide) rfl (fun ls hl => ?_)
                  refine lv_goto (pc := 210) (tgt := 109) hx hb dX9_total_210 (by decide) ?_
                  exact ih x3 r139 x5_205 x6 x7 x8 (x10 + 1) M139 _ _ _ hw hP hS (lv_sub hl [5, 6, 7, 3, 2, 1, 8, 9, 10, 0] rfl)
            · replace hw := if_f h hw
              refine lv_iload (pc := 170) hx hb dX9_total_170 (lv_at hl 0 rfl) ?_
              refine lv_goto (pc := 172) (tgt := 176) hx hb dX9_total_172 (by decide) ?_
              refine lv_istore_n (pc := 176) (lv' := [(3, .int r139), (11, .int r139), (0, .ref (ad (29, 0, 0, 0))), (1, .int a1), (2, .int a2), (4, .int x4), (5, .int x5), (6, .int x6), (7, .int x7), (8, .int x8), (10, .int x10)]) hx hb dX9_total_176 rfl hl (by decide) rfl (fun ls hl => ?_)
              refine lv_iload (pc := 177) hx hb dX9_total_177 (lv_at hl 5 rfl) ?_
              refine lv_ldc (pc := 179) (own := RX9) (v := (-2000000 : Int32)) hx hb hown (hts _ mw_715) dX9_total_179 ?_
              refine lv_icmp_eq (pc := 181) (tgt := 191) hx hb dX9_total_181 (by decide) (fun h => ?_) (fun h => ?_)
              · replace hw := if_t h hw
                refine lv_iload (pc := 191) hx hb dX9_total_191 (lv_at hl 1 rfl) ?_
                refine lv_goto (pc := 193) (tgt := 198) hx hb dX9_total_193 (by decide) ?_
                refine lv_istore (pc := 198) (lv' := [(4, .int r139), (3, .int r139), (11, .int r139), (0, .ref (ad (29, 0, 0, 0))), (1, .int a1), (2, .int a2), (5, .int x5), (6, .int x6), (7, .int x7), (8, .int x8), (10, .int x10)]) hx hb dX9_total_198 hl (by decide) rfl (fun ls hl => ?_)
                refine lv_iload (pc := 200) hx hb dX9_total_200 (lv_at hl 6 rfl) ?_
                refine lv_iload (pc := 202) hx hb dX9_total_202 (lv_at hl 2 rfl) ?_
                refine lv_iadd (pc := 204) hx hb dX9_total_204 ?_
                refine lv_topi (fun x5_205 ex5_205 => ?_)
                replace hw := hw x5_205 ex5_205
                refine lv_istore (pc := 205) (lv' := [(5, .int x5_205), (4, .int r139), (3, .int r139), (11, .int r139), (0, .ref (ad (29, 0, 0, 0))), (1, .int a1), (2, .int a2), (6, .int x6), (7, .int x7), (8, .int x8), (10, .int x10)]) hx hb dX9_total_205 hl (by decide) rfl (fun ls hl => ?_)
                refine lv_iinc (pc := 207) (v := x10 + 1) (lv' := [(10, .int (x10 + 1)), (5, .int x5_205), (4, .int r139), (3, .int r139), (11, .int r139), (0, .ref (ad (29, 0, 0, 0))), (1, .int a1), (2, .int a2), (6, .int x6), (7, .int x7), (8, .int x8)]) hx hb dX9_total_207 hl (k := 10) rfl rfl (by decide) rfl (fun ls hl => ?_)
                refine lv_goto (pc := 210) (tgt := 109) hx hb dX9_total_210 (by decide) ?_
                exact ih r139 r139 x5_205 x6 x7 x8 (x10 + 1) M139 _ _ _ hw hP hS (lv_sub hl [5, 6, 7, 3, 2, 1, 8, 9, 10, 0] rfl)
              · replace hw := if_f h hw
                refine lv_iload (pc := 184) hx hb dX9_total_184 (lv_at hl 1 rfl) ?_
                refine lv_iload (pc := 186) hx hb dX9_total_186 (lv_at hl 5 rfl) ?_
                refine lv_icmp_le (pc := 188) (tgt := 196) hx hb dX9_total_188 (by decide) (fun h => ?_) (fun h => ?_)
                · replace hw := if_t h hw
                  refine lv_iload (pc := 196) hx hb dX9_total_196 (lv_at hl 5 rfl) ?_
                  refine lv_istore (pc := 198) (lv' := [(4, .int x4), (3, .int r139), (11, .int r139), (0, .ref (ad (29, 0, 0, 0))), (1, .int a1), (2, .int a2), (5, .int x5), (6, .int x6), (7, .int x7), (8, .int x8), (10, .int x10)]) hx hb dX9_total_198 hl (by decide) rfl (fun ls hl => ?_)
                  refine lv_iload (pc := 200) hx hb dX9_total_200 (lv_at hl 6 rfl) ?_
                  refine lv_iload (pc := 202) hx hb dX9_total_202 (lv_at hl 2 rfl) ?_
                  refine lv_iadd (pc := 204) hx hb dX9_total_204 ?_
                  refine lv_topi (fun x5_205 ex5_205 => ?_)
                  replace hw := hw x5_205 ex5_205
                  refine lv_istore (pc := 205) (lv' := [(5, .int x5_205), (4, .int x4), (3, .int r139), (11, .int r139), (0, .ref (ad (29, 0, 0, 0))), (1, .int a1), (2, .int a2), (6, .int x6), (7, .int x7), (8, .int x8), (10, .int x10)]) hx hb dX9_total_205 hl (by decide) rfl (fun ls hl => ?_)
                  refine lv_iinc (pc := 207) (v := x10 + 1) (lv' := [(10, .int (x10 + 1)), (5, .int x5_205), (4, .int x4), (3, .int r139), (11, .int r139), (0, .ref (ad (29, 0, 0, 0))), (1, .int a1), (2, .int a2), (6, .int x6), (7, .int x7), (8, .int x8)]) hx hb dX9_total_207 hl (k := 10) rfl rfl (by decide) rfl (fun ls hl => ?_)
                  refine lv_goto (pc := 210) (tgt := 109) hx hb dX9_total_210 (by decide) ?_
                  exact ih r139 x4 x5_205 x6 x7 x8 (x10 + 1) M139 _ _ _ hw hP hS (lv_sub hl [5, 6, 7, 3, 2, 1, 8, 9, 10, 0] rfl)
                · replace hw := if_f h hw
                  refine lv_iload (pc := 191) hx hb dX9_total_191 (lv_at hl 1 rfl) ?_
                  refine lv_goto (pc := 193) (tgt := 198) hx hb dX9_total_193 (by decide) ?_
                  refine lv_istore (pc := 198) (lv' := [(4, .int r139), (3, .int r139), (11, .int r139), (0, .ref (ad (29, 0, 0, 0))), (1, .int a1), (2, .int a2), (5, .int x5), (6, .int x6), (7, .int x7), (8, .int x8), (10, .int x10)]) hx hb dX9_total_198 hl (by decide) rfl (fun ls hl => ?_)
                  refine lv_iload (pc := 200) hx hb dX9_total_200 (lv_at hl 6 rfl) ?_
                  refine lv_iload (pc := 202) hx hb dX9_total_202 (lv_at hl 2 rfl) ?_
                  refine lv_iadd (pc := 204) hx hb dX9_total_204 ?_
                  refine lv_topi (fun x5_205 ex5_205 => ?_)
                  replace hw := hw x5_205 ex5_205
                  refine lv_istore (pc := 205) (lv' := [(5, .int x5_205), (4, .int r139), (3, .int r139), (11, .int r139), (0, .ref (ad (29, 0, 0, 0))), (1, .int a1), (2, .int a2), (6, .int x6), (7, .int x7), (8, .int x8), (10, .int x10)]) hx hb dX9_total_205 hl (by decide) rfl (fun ls hl => ?_)
                  refine lv_iinc (pc := 207) (v := x10 + 1) (lv' := [(10, .int (x10 + 1)), (5, .int x5_205), (4, .int r139), (3, .int r139), (11, .int r139), (0, .ref (ad (29, 0, 0, 0))), (1, .int a1), (2, .int a2), (6, .int x6), (7, .int x7), (8, .int x8)]) hx hb dX9_total_207 hl (k := 10) rfl rfl (by decide) rfl (fun ls hl => ?_)
                  refine lv_goto (pc := 210) (tgt := 109) hx hb dX9_total_210 (by decide) ?_
                  exact ih r139 r139 x5_205 x6 x7 x8 (x10 + 1) M139 _ _ _ hw hP hS (lv_sub hl [5, 6, 7, 3, 2, 1, 8, 9, 10, 0] rfl)
        · replace hw := if_t h hw
          refine lv_iinc (pc := 152) (v := x6 + 1) (lv' := [(6, .int (x6 + 1)), (11, .int r139), (0, .ref (ad (29, 0, 0, 0))), (1, .int a1), (2, .int a2), (3, .int x3), (4, .int x4), (5, .int x5), (7, .int x7), (8, .int x8), (10, .int x10)]) hx hb dX9_total_152 hl (k := 7) rfl rfl (by decide) rfl (fun ls hl => ?_)
          refine lv_goto (pc := 155) (tgt := 207) hx hb dX9_total_155 (by decide) ?_
          refine lv_iinc (pc := 207) (v := x10 + 1) (lv' := [(10, .int (x10 + 1)), (6, .int (x6 + 1)), (11, .int r139), (0, .ref (ad (29, 0, 0, 0))), (1, .int a1), (2, .int a2), (3, .int x3), (4, .int x4), (5, .int x5), (7, .int x7), (8, .int x8)]) hx hb dX9_total_207 hl (k := 10) rfl rfl (by decide) rfl (fun ls hl => ?_)
          refine lv_goto (pc := 210) (tgt := 109) hx hb dX9_total_210 (by decide) ?_
          exact ih x3 x4 x5 (x6 + 1) x7 x8 (x10 + 1) M139 _ _ _ hw hP hS (lv_sub hl [3, 4, 5, 6, 7, 8, 1, 9, 10, 0] rfl)
set_option maxHeartbeats 4000000 in
set_option maxRecDepth 100000 in
theorem j_X9_total_53 {a1 : Int32} {a2 : Int32} (C : cx p s m args meth c cX9_total 12 (some .int) RX9 G) (hC : clo I) (h0 : I (29, 0, 0, 0)) {Q : Int32 → Mem → Prop} : ∀ (n : Nat), ∀ (x3 : Int32) (x4 : Int32) (x5 : Int32) (x6 : Int32) (x7 : Int32) (x8 : Int32) (M : Mem) (H : Heap) (locs : List Loc) (ls : Array Slot), w_X9_total_53 a1 a2 Q n x3 x4 x5 x6 x7 x8 M → wd G I ad M H → va_S (fA I ad) s.heap H locs → lv_has ls 12 [(0, .ref (ad (29, 0, 0, 0))), (1, .int a1), (2, .int a2), (3, .int x3), (4, .int x4), (5, .int x5), (6, .int x6), (7, .int x7), (8, .int x8)] → W p l e rm_X9_total s m args below meth c H locs 0 0 (MQ below (qI G I ad Q) args s 0 0 (fA I ad)) (F0 m 53 ls []) := by
  have hx := C.1
  have hb := C.2.1
  have hown := C.2.2.2.1
  have hts := C.2.2.2.2.1
  intro n
  induction n with
  | zero =>
    intro x3 x4 x5 x6 x7 x8 M H locs ls hw hP hS hl
    rw [w_X9_total_53] at hw
    exact hw.elim
  | succ n ih =>
    intro x3 x4 x5 x6 x7 x8 M H locs ls hw hP hS hl
    rw [w_X9_total_53] at hw
    refine lv_iload (pc := 53) hx hb dX9_total_53 (lv_at hl 8 rfl) ?_
    refine lv_bipush (pc := 55) (v := (6 : Int32)) hx hb dX9_total_55 (by decide) ?_
    refine lv_icmp_ge (pc := 57) (tgt := 219) hx hb dX9_total_57 (by decide) (fun h => ?_) (fun h => ?_)
    · replace hw := if_t h hw
      refine lv_iload_n (pc := 219) hx hb dX9_total_219 rfl (lv_at hl 2 rfl) ?_
      by_cases hk0 : a2 = (0 : Int32)
      · replace hw := if_t hk0 hw
        refine lv_tableIn (pc := 220) (tgt := 248) (off := 28) hx hb dX9_total_220 (by rw [hk0]; decide) (by rw [hk0]; decide) (by rw [hk0]; rfl) (by decide) ?_
        refine lv_iload_n (pc := 248) hx hb dX9_total_248 rfl (lv_at hl 3 rfl) ?_
        exact r_iret (pc := 249) C hP hS hw dX9_total_249
      · replace hw := if_f hk0 hw
        by_cases hk1 : a2 = (1 : Int32)
        · replace hw := if_t hk1 hw
          refine lv_tableIn (pc := 220) (tgt := 250) (off := 30) hx hb dX9_total_220 (by rw [hk1]; decide) (by rw [hk1]; decide) (by rw [hk1]; rfl) (by decide) ?_
          refine lv_iload (pc := 250) hx hb dX9_total_250 (lv_at hl 4 rfl) ?_
          exact r_iret (pc := 252) C hP hS hw dX9_total_252
        · replace hw := if_f hk1 hw
          by_cases hk2 : a2 = (2 : Int32)
          · replace hw := if_t hk2 hw
            refine lv_tableIn (pc := 220) (tgt := 253) (off := 33) hx hb dX9_total_220 (by rw [hk2]; decide) (by rw [hk2]; decide) (by rw [hk2]; rfl) (by decide) ?_
            refine lv_iload (pc := 253) hx hb dX9_total_253 (lv_at hl 5 rfl) ?_
            exact r_iret (pc := 255) C hP hS hw dX9_total_255
          · replace hw := if_f hk2 hw
            refine lv_tableOut (pc := 220) (tgt := 256) hx hb dX9_total_220 (by have q0 := lv_neT (a := 0) hk0 rfl; have q1 := lv_neT (a := 1) hk1 rfl; have q2 := lv_neT (a := 2) hk2 rfl; omega) (by decide) ?_
            refine lv_iload_n (pc := 256) hx hb dX9_total_256 rfl (lv_at hl 2 rfl) ?_
            refine lv_iconst (pc := 257) (v := (3 : Int32)) hx hb dX9_total_257 (by decide) ?_
            refine lv_icmp_ne (pc := 258) (tgt := 266) hx hb dX9_total_258 (by decide) (fun h => ?_) (fun h => ?_)
            · replace hw := if_f h hw
              refine lv_iload (pc := 266) hx hb dX9_total_266 (lv_at hl 7 rfl) ?_
              exact r_iret (pc := 268) C hP hS hw dX9_total_268
            · replace hw := if_t h hw
              refine lv_iload (pc := 261) hx hb dX9_total_261 (lv_at hl 6 rfl) ?_
              refine lv_goto (pc := 263) (tgt := 268) hx hb dX9_total_263 (by decide) ?_
              exact r_iret (pc := 268) C hP hS hw dX9_total_268
    · replace hw := if_f h hw
      refine lv_aload_n (pc := 60) hx hb dX9_total_60 rfl (lv_at hl 0 rfl) ?_
      refine lv_iload (pc := 61) hx hb dX9_total_61 (lv_at hl 8 rfl) ?_
      refine r_cVI (pc := 63) (rest := []) (As := [.int x8]) C hl.1 hP hS (k_X9_verdictOf l G hC h0 hw) h0 rfl rfl mw_932 mw_934 mw_51 mw_65 mw_935 ⟨rfl, rfl⟩ hd_X9_verdictOf rfl rfl ⟨Nat.le_of_ble_eq_true rfl, Nat.le_of_ble_eq_true rfl⟩ (Nat.le_of_ble_eq_true rfl) ⟨Nat.zero_le _, Nat.zero_le _⟩ dX9_total_63 (fun r63 M63 H locs hw hP hS => ?_)
      refine lv_istore (pc := 66) (lv' := [(9, .int r63), (0, .ref (ad (29, 0, 0, 0))), (1, .int a1), (2, .int a2), (3, .int x3), (4, .int x4), (5, .int x5), (6, .int x6), (7, .int x7), (8, .int x8)]) hx hb dX9_total_66 hl (by decide) rfl (fun ls hl => ?_)
      refine lv_iload (pc := 68) hx hb dX9_total_68 (lv_at hl 8 rfl) ?_
      refine lv_iload (pc := 70) hx hb dX9_total_70 (lv_at hl 0 rfl) ?_
      refine lv_iconst (pc := 72) (v := (2 : Int32)) hx hb dX9_total_72 (by decide) ?_
      refine lv_icmp_eq (pc := 73) (tgt := 92) hx hb dX9_total_73 (by decide) (fun h => ?_) (fun h => ?_)
      · replace hw := if_t h hw
        refine lv_aload_n (pc := 92) hx hb dX9_total_92 rfl (lv_at hl 1 rfl) ?_
        refine gf_717 (pc := 93) C hP h0 dX9_total_93 ?_
        refine lv_iload (pc := 96) hx hb dX9_total_96 (lv_at hl 9 rfl) ?_
        refine r_ialdK (pc := 98) (n := 6) (k := x8.toNatClampNeg) C hP (cl_29_1 hC h0) (fun _ _ _ _ => rfl) hw.1 rfl dX9_total_98 ?_
        replace hw := hw.2
        refine lv_goto (pc := 99) (tgt := 103) hx hb dX9_total_99 (by decide) ?_
        refine lv_iadd (pc := 103) hx hb dX9_total_103 ?_
        refine lv_topi (fun x7_104 ex7_104 => ?_)
        replace hw := hw x7_104 ex7_104
        refine lv_istore (pc := 104) (lv' := [(7, .int x7_104), (9, .int r63), (0, .ref (ad (29, 0, 0, 0))), (1, .int a1), (2, .int a2), (3, .int x3), (4, .int x4), (5, .int x5), (6, .int x6), (8, .int x8)]) hx hb dX9_total_104 hl (by decide) rfl (fun ls hl => ?_)
        refine lv_iconst (pc := 106) (v := (0 : Int32)) hx hb dX9_total_106 (by decide) ?_
        refine lv_istore (pc := 107) (lv' := [(10, .int (0 : Int32)), (7, .int x7_104), (9, .int r63), (0, .ref (ad (29, 0, 0, 0))), (1, .int a1), (2, .int a2), (3, .int x3), (4, .int x4), (5, .int x5), (6, .int x6), (8, .int x8)]) hx hb dX9_total_107 hl (by decide) rfl (fun ls hl => ?_)
        obtain ⟨n0, hw⟩ := hw
        exact j_X9_total_109 C hC h0 ih n0 x3 x4 x5 x6 x7_104 x8 (0 : Int32) M63 _ _ _ hw hP hS (lv_sub hl [3, 4, 5, 6, 7, 8, 9, 1, 10, 0] rfl)
      · replace hw := if_f h hw
        refine lv_iload (pc := 76) hx hb dX9_total_76 (lv_at hl 0 rfl) ?_
        refine lv_iconst (pc := 78) (v := (1 : Int32)) hx hb dX9_total_78 (by decide) ?_
        refine lv_icmp_ne (pc := 79) (tgt := 102) hx hb dX9_total_79 (by decide) (fun h => ?_) (fun h => ?_)
        · replace hw := if_f h hw
          refine lv_iconst (pc := 102) (v := (0 : Int32)) hx hb dX9_total_102 (by decide) ?_
          refine lv_iadd (pc := 103) hx hb dX9_total_103 ?_
          refine lv_topi (fun x7_104 ex7_104 => ?_)
          replace hw := hw x7_104 ex7_104
          refine lv_istore (pc := 104) (lv' := [(7, .int x7_104), (9, .int r63), (0, .ref (ad (29, 0, 0, 0))), (1, .int a1), (2, .int a2), (3, .int x3), (4, .int x4), (5, .int x5), (6, .int x6), (8, .int x8)]) hx hb dX9_total_104 hl (by decide) rfl (fun ls hl => ?_)
          refine lv_iconst (pc := 106) (v := (0 : Int32)) hx hb dX9_total_106 (by decide) ?_
          refine lv_istore (pc := 107) (lv' := [(10, .int (0 : Int32)), (7, .int x7_104), (9, .int r63), (0, .ref (ad (29, 0, 0, 0))), (1, .int a1), (2, .int a2), (3, .int x3), (4, .int x4), (5, .int x5), (6, .int x6), (8, .int x8)]) hx hb dX9_total_107 hl (by decide) rfl (fun ls hl => ?_)
          obtain ⟨n0, hw⟩ := hw
          exact j_X9_total_109 C hC h0 ih n0 x3 x4 x5 x6 x7_104 x8 (0 : Int32) M63 _ _ _ hw hP hS (lv_sub hl [3, 4, 5, 6, 7, 8, 9, 1, 10, 0] rfl)
        · replace hw := if_t h hw
          refine lv_aload_n (pc := 82) hx hb dX9_total_82 rfl (lv_at hl 1 rfl) ?_
          refine lv_iload (pc := 83) hx hb dX9_total_83 (lv_at hl 9 rfl) ?_
          refine lv_iload_n (pc := 85) hx hb dX9_total_85 rfl (lv_at hl 2 rfl) ?_
          refine r_cVI (pc := 86) (rest := [.int x7]) (As := [.int x8, .int a1]) C hl.1 hP hS (k_X9_isStale l G hC h0 hw) h0 rfl rfl mw_806 mw_808 mw_39 mw_65 mw_809 ⟨rfl, rfl⟩ hd_X9_isStale rfl rfl ⟨Nat.le_of_ble_eq_true rfl, Nat.le_of_ble_eq_true rfl⟩ (Nat.le_of_ble_eq_true rfl) ⟨Nat.zero_le _, Nat.zero_le _⟩ dX9_total_86 (fun r86 M86 H locs hw hP hS => ?_)
          refine lv_if_eq (pc := 89) (tgt := 102) hx hb dX9_total_89 (by decide) (fun h => ?_) (fun h => ?_)
          · replace hw := if_t h hw
            refine lv_iconst (pc := 102) (v := (0 : Int32)) hx hb dX9_total_102 (by decide) ?_
            refine lv_iadd (pc := 103) hx hb dX9_total_103 ?_
            refine lv_topi (fun x7_104 ex7_104 => ?_)
            replace hw := hw x7_104 ex7_104
            refine lv_istore (pc := 104) (lv' := [(7, .int x7_104), (9, .int r63), (0, .ref (ad (29, 0, 0, 0))), (1, .int a1), (2, .int a2), (3, .int x3), (4, .int x4), (5, .int x5), (6, .int x6), (8, .int x8)]) hx hb dX9_total_104 hl (by decide) rfl (fun ls hl => ?_)
            refine lv_iconst (pc := 106) (v := (0 : Int32)) hx hb dX9_total_106 (by decide) ?_
            refine lv_istore (pc := 107) (lv' := [(10, .int (0 : Int32)), (7, .int x7_104), (9, .int r63), (0, .ref (ad (29, 0, 0, 0))), (1, .int a1), (2, .int a2), (3, .int x3), (4, .int x4), (5, .int x5), (6, .int x6), (8, .int x8)]) hx hb dX9_total_107 hl (by decide) rfl (fun ls hl => ?_)
            obtain ⟨n0, hw⟩ := hw
            exact j_X9_total_109 C hC h0 ih n0 x3 x4 x5 x6 x7_104 x8 (0 : Int32) M86 _ _ _ hw hP hS (lv_sub hl [3, 4, 5, 6, 7, 8, 9, 1, 10, 0] rfl)
          · replace hw := if_f h hw
            refine lv_aload_n (pc := 92) hx hb dX9_total_92 rfl (lv_at hl 1 rfl) ?_
            refine gf_717 (pc := 93) C hP h0 dX9_total_93 ?_
            refine lv_iload (pc := 96) hx hb dX9_total_96 (lv_at hl 9 rfl) ?_
            refine r_ialdK (pc := 98) (n := 6) (k := x8.toNatClampNeg) C hP (cl_29_1 hC h0) (fun _ _ _ _ => rfl) hw.1 rfl dX9_total_98 ?_
            replace hw := hw.2
            refine lv_goto (pc := 99) (tgt := 103) hx hb dX9_total_99 (by decide) ?_
            refine lv_iadd (pc := 103) hx hb dX9_total_103 ?_
            refine lv_topi (fun x7_104 ex7_104 => ?_)
            replace hw := hw x7_104 ex7_104
            refine lv_istore (pc := 104) (lv' := [(7, .int x7_104), (9, .int r63), (0, .ref (ad (29, 0, 0, 0))), (1, .int a1), (2, .int a2), (3, .int x3), (4, .int x4), (5, .int x5), (6, .int x6), (8, .int x8)]) hx hb dX9_total_104 hl (by decide) rfl (fun ls hl => ?_)
            refine lv_iconst (pc := 106) (v := (0 : Int32)) hx hb dX9_total_106 (by decide) ?_
            refine lv_istore (pc := 107) (lv' := [(10, .int (0 : Int32)), (7, .int x7_104), (9, .int r63), (0, .ref (ad (29, 0, 0, 0))), (1, .int a1), (2, .int a2), (3, .int x3), (4, .int x4), (5, .int x5), (6, .int x6), (8, .int x8)]) hx hb dX9_total_107 hl (by decide) rfl (fun ls hl => ?_)
            obtain ⟨n0, hw⟩ := hw
            exact j_X9_total_109 C hC h0 ih n0 x3 x4 x5 x6 x7_104 x8 (0 : Int32) M86 _ _ _ hw hP hS (lv_sub hl [3, 4, 5, 6, 7, 8, 9, 1, 10, 0] rfl)
set_option maxHeartbeats 4000000 in
set_option maxRecDepth 100000 in
theorem j_X9_total_0 {a1 : Int32} {a2 : Int32} (C : cx p s m args meth c cX9_total 12 (some .int) RX9 G) (hC : clo I) (h0 : I (29, 0, 0, 0)) {Q : Int32 → Mem → Prop} : ∀ (M : Mem) (H : Heap) (locs : List Loc) (ls : Array Slot), w_X9_total a1 a2 Q M → wd G I ad M H → va_S (fA I ad) s.heap H locs → lv_has ls 12 [(0, .ref (ad (29, 0, 0, 0))), (1, .int a1), (2, .int a2)] → W p l e rm_X9_total s m args below meth c H locs 0 0 (MQ below (qI G I ad Q) args s 0 0 (fA I ad)) (F0 m 0 ls []) := by
  have hx := C.1
  have hb := C.2.1
  have hown := C.2.2.2.1
  have hts := C.2.2.2.2.1
  intro M H locs ls hw hP hS hl
  unfold w_X9_total at hw
  refine lv_iload_n (pc := 0) hx hb dX9_total_0 rfl (lv_at hl 1 rfl) ?_
  refine r_cSI (pc := 1) (rest := []) (As := [.int a1]) C hl.1 hP hS (k_X9_isColumn l G hC  hw) mw_818 mw_819 mw_65 mw_820 ⟨rfl, rfl⟩ hd_X9_isColumn rfl rfl ⟨Nat.le_of_ble_eq_true rfl, Nat.le_of_ble_eq_true rfl⟩ (Nat.le_of_ble_eq_true rfl) ⟨Nat.zero_le _, Nat.zero_le _⟩ dX9_total_1 (fun r1 M1 H locs hw hP hS => ?_)
  refine lv_if_ne (pc := 4) (tgt := 10) hx hb dX9_total_4 (by decide) (fun h => ?_) (fun h => ?_)
  · replace hw := if_f h hw
    refine lv_iload_n (pc := 10) hx hb dX9_total_10 rfl (lv_at hl 2 rfl) ?_
    refine lv_iconst (pc := 11) (v := (0 : Int32)) hx hb dX9_total_11 (by decide) ?_
    refine lv_iconst (pc := 12) (v := (4 : Int32)) hx hb dX9_total_12 (by decide) ?_
    refine r_cSI (pc := 13) (rest := []) (As := [.int a2, .int (0 : Int32), .int (4 : Int32)]) C hl.1 hP hS (k_X9_in l G hC  hw) mw_779 mw_780 mw_65 mw_781 ⟨rfl, rfl⟩ hd_X9_in rfl rfl ⟨Nat.le_of_ble_eq_true rfl, Nat.le_of_ble_eq_true rfl⟩ (Nat.le_of_ble_eq_true rfl) ⟨Nat.zero_le _, Nat.zero_le _⟩ dX9_total_13 (fun r13 M13 H locs hw hP hS => ?_)
    refine lv_if_ne (pc := 16) (tgt := 22) hx hb dX9_total_16 (by decide) (fun h => ?_) (fun h => ?_)
    · replace hw := if_f h hw
      refine lv_aload_n (pc := 22) hx hb dX9_total_22 rfl (lv_at hl 0 rfl) ?_
      refine r_cVI (pc := 23) (rest := []) (As := []) C hl.1 hP hS (k_X9_read l G hC h0 hw) h0 rfl rfl mw_843 mw_845 mw_41 mw_65 mw_846 ⟨rfl, rfl⟩ hd_X9_read rfl rfl ⟨Nat.le_of_ble_eq_true rfl, Nat.le_of_ble_eq_true rfl⟩ (Nat.le_of_ble_eq_true rfl) ⟨Nat.zero_le _, Nat.zero_le _⟩ dX9_total_23 (fun r23 M23 H locs hw hP hS => ?_)
      refine lv_ldc (pc := 26) (own := RX9) (v := (-2000000 : Int32)) hx hb hown (hts _ mw_715) dX9_total_26 ?_
      refine lv_icmp_eq (pc := 28) (tgt := 34) hx hb dX9_total_28 (by decide) (fun h => ?_) (fun h => ?_)
      · replace hw := if_t h hw
        refine lv_ldc (pc := 34) (own := RX9) (v := (-2000000 : Int32)) hx hb hown (hts _ mw_715) dX9_total_34 ?_
        refine lv_istore_n (pc := 36) (lv' := [(3, .int (-2000000 : Int32)), (0, .ref (ad (29, 0, 0, 0))), (1, .int a1), (2, .int a2)]) hx hb dX9_total_36 rfl hl (by decide) rfl (fun ls hl => ?_)
        refine lv_ldc (pc := 37) (own := RX9) (v := (-2000000 : Int32)) hx hb hown (hts _ mw_715) dX9_total_37 ?_
        refine lv_istore (pc := 39) (lv' := [(4, .int (-2000000 : Int32)), (3, .int (-2000000 : Int32)), (0, .ref (ad (29, 0, 0, 0))), (1, .int a1), (2, .int a2)]) hx hb dX9_total_39 hl (by decide) rfl (fun ls hl => ?_)
        refine lv_iconst (pc := 41) (v := (0 : Int32)) hx hb dX9_total_41 (by decide) ?_
        refine lv_istore (pc := 42) (lv' := [(5, .int (0 : Int32)), (4, .int (-2000000 : Int32)), (3, .int (-2000000 : Int32)), (0, .ref (ad (29, 0, 0, 0))), (1, .int a1), (2, .int a2)]) hx hb dX9_total_42 hl (by decide) rfl (fun ls hl => ?_)
        refine lv_iconst (pc := 44) (v := (0 : Int32)) hx hb dX9_total_44 (by decide) ?_
        refine lv_istore (pc := 45) (lv' := [(6, .int (0 : Int32)), (5, .int (0 : Int32)), (4, .int (-2000000 : Int32)), (3, .int (-2000000 : Int32)), (0, .ref (ad (29, 0, 0, 0))), (1, .int a1), (2, .int a2)]) hx hb dX9_total_45 hl (by decide) rfl (fun ls hl => ?_)
        refine lv_iconst (pc := 47) (v := (0 : Int32)) hx hb dX9_total_47 (by decide) ?_
        refine lv_istore (pc := 48) (lv' := [(7, .int (0 : Int32)), (6, .int (0 : Int32)), (5, .int (0 : Int32)), (4, .int (-2000000 : Int32)), (3, .int (-2000000 : Int32)), (0, .ref (ad (29, 0, 0, 0))), (1, .int a1), (2, .int a2)]) hx hb dX9_total_48 hl (by decide) rfl (fun ls hl => ?_)
        refine lv_iconst (pc := 50) (v := (0 : Int32)) hx hb dX9_total_50 (by decide) ?_
        refine lv_istore (pc := 51) (lv' := [(8, .int (0 : Int32)), (7, .int (0 : Int32)), (6, .int (0 : Int32)), (5, .int (0 : Int32)), (4, .int (-2000000 : Int32)), (3, .int (-2000000 : Int32)), (0, .ref (ad (29, 0, 0, 0))), (1, .int a1), (2, .int a2)]) hx hb dX9_total_51 hl (by decide) rfl (fun ls hl => ?_)
        obtain ⟨n0, hw⟩ := hw
        exact j_X9_total_53 C hC h0 n0 (-2000000 : Int32) (-2000000 : Int32) (0 : Int32) (0 : Int32) (0 : Int32) (0 : Int32) M23 _ _ _ hw hP hS (lv_sub hl [6, 7, 8, 5, 4, 3, 2, 1, 0] rfl)
      · replace hw := if_f h hw
        refine lv_ldc (pc := 31) (own := RX9) (v := (-3000005 : Int32)) hx hb hown (hts _ mw_907) dX9_total_31 ?_
        exact r_iret (pc := 33) C hP hS hw dX9_total_33
    · replace hw := if_t h hw
      refine lv_ldc (pc := 19) (own := RX9) (v := (-3000002 : Int32)) hx hb hown (hts _ mw_826) dX9_total_19 ?_
      exact r_iret (pc := 21) C hP hS hw dX9_total_21
  · replace hw := if_t h hw
    refine lv_ldc (pc := 7) (own := RX9) (v := (-3000001 : Int32)) hx hb hown (hts _ mw_821) dX9_total_7 ?_
    exact r_iret (pc := 9) C hP hS hw dX9_total_9
end
theorem k_X9_total (l : Launch) (G : GG) {I : ix → Prop} {ad : ix → Nat} (hC : clo I) {a1 : Int32} {a2 : Int32} (h0 : I (29, 0, 0, 0)) {Q : Int32 → Mem → Prop} {M : Mem} (hw : w_X9_total a1 a2 Q M) : Met l yX9_total (wW yX9_total cX9_total 12 (some .int)) rm_X9_total (va_Pc [.ref (ad (29, 0, 0, 0)), .int a1, .int a2] (fun U => wd G I ad M U.heap ∧ wK G U)) (qI G I ad Q) 0 0 (fA I ad) := met_of (by decide +kernel) (Nat.le_of_ble_eq_true rfl) (fun p e s m below meth c C hP hS ls hl => j_X9_total_0 C hC h0 _ _ _ _ hw hP hS hl)
section
variable {p : Program} {l : Launch} {e : Env} {s : State} {m : MethodId} {args : Array Value} {below : List Frame} {meth : Method} {c : Code} 
variable  {G : GG} {I : ix → Prop} {ad : ix → Nat}
set_option maxHeartbeats 4000000 in
set_option maxRecDepth 100000 in
theorem j_X9_image_82 {a1 : Int32} (C : cx p s m args meth c cX9_image 4 (some .int) RX9 G) (hC : clo I) (h0 : I (29, 0, 0, 0)) {Q : Int32 → Mem → Prop} : ∀ (n : Nat), ∀ (x2 : Int32) (x3 : Int32) (M : Mem) (H : Heap) (locs : List Loc) (ls : Array Slot), w_X9_image_82 a1 Q n x2 x3 M → wd G I ad M H → va_S (fA I ad) s.heap H locs → lv_has ls 4 [(0, .ref (ad (29, 0, 0, 0))), (1, .int a1), (2, .int x2), (3, .int x3)] → W p l e rm_X9_image s m args below meth c H locs 0 0 (MQ below (qI G I ad Q) args s 0 0 (fA I ad)) (F0 m 82 ls []) := by
  have hx := C.1
  have hb := C.2.1
  have hown := C.2.2.2.1
  have hts := C.2.2.2.2.1
  intro n
  induction n with
  | zero =>
    intro x2 x3 M H locs ls hw hP hS hl
    rw [w_X9_image_82] at hw
    exact hw.elim
  | succ n ih =>
    intro x2 x3 M H locs ls hw hP hS hl
    rw [w_X9_image_82] at hw
    refine lv_iload_n (pc := 82) hx hb dX9_image_82 rfl (lv_at hl 3 rfl) ?_
    refine lv_bipush (pc := 83) (v := (6 : Int32)) hx hb dX9_image_83 (by decide) ?_
    refine lv_icmp_ge (pc := 85) (tgt := 112) hx hb dX9_image_85 (by decide) (fun h => ?_) (fun h => ?_)
    · replace hw := if_t h hw
      refine lv_aload_n (pc := 112) hx hb dX9_image_112 rfl (lv_at hl 0 rfl) ?_
      refine gf_733 (pc := 113) C hP h0 dX9_image_113 ?_
      refine lv_iload_n (pc := 116) hx hb dX9_image_116 rfl (lv_at hl 1 rfl) ?_
      refine lv_iconst (pc := 117) (v := (1 : Int32)) hx hb dX9_image_117 (by decide) ?_
      refine r_zast (pc := 118) C hP hS (cl_29_17 hC h0) hw.1 dX9_image_118 (fun H locs hP hS => ?_)
      replace hw := hw.2
      refine lv_iconst (pc := 119) (v := (1 : Int32)) hx hb dX9_image_119 (by decide) ?_
      exact r_iret (pc := 120) C hP hS hw dX9_image_120
    · replace hw := if_f h hw
      refine lv_aload_n (pc := 88) hx hb dX9_image_88 rfl (lv_at hl 0 rfl) ?_
      refine gf_732 (pc := 89) C hP h0 dX9_image_89 ?_
      refine lv_iload_n (pc := 92) hx hb dX9_image_92 rfl (lv_at hl 2 rfl) ?_
      refine lv_sipush (pc := 93) (v := (480 : Int32)) hx hb dX9_image_93 (by decide) ?_
      refine lv_iadd (pc := 96) hx hb dX9_image_96 ?_
      refine lv_iload_n (pc := 97) hx hb dX9_image_97 rfl (lv_at hl 3 rfl) ?_
      refine lv_iadd (pc := 98) hx hb dX9_image_98 ?_
      refine lv_aload_n (pc := 99) hx hb dX9_image_99 rfl (lv_at hl 0 rfl) ?_
      refine gf_717 (pc := 100) C hP h0 dX9_image_100 ?_
      refine lv_iload_n (pc := 103) hx hb dX9_image_103 rfl (lv_at hl 3 rfl) ?_
      refine r_ialdK (pc := 104) (n := 6) (k := x3.toNatClampNeg) C hP (cl_29_1 hC h0) (fun _ _ _ _ => rfl) hw.1 rfl dX9_image_104 ?_
      replace hw := hw.2
      refine r_iastK (pc := 105) (n := 1000) (k := ((x2 + (480 : Int32)) + x3).toNatClampNeg) C hP hS (cl_29_16 hC h0) (fun _ _ _ _ => rfl) hw.1 rfl dX9_image_105 (fun H locs hP hS => ?_)
      replace hw := hw.2
      refine lv_iinc (pc := 106) (v := x3 + 1) (lv' := [(3, .int (x3 + 1)), (0, .ref (ad (29, 0, 0, 0))), (1, .int a1), (2, .int x2)]) hx hb dX9_image_106 hl (k := 3) rfl rfl (by decide) rfl (fun ls hl => ?_)
      refine lv_goto (pc := 109) (tgt := 82) hx hb dX9_image_109 (by decide) ?_
      exact ih x2 (x3 + 1) (mu M (45, 0, 0, 0) (((x2 + (480 : Int32)) + x3).toNatClampNeg) (M.1 (31, 0, 0, 0) x3.toNatClampNeg)) _ _ _ hw hP hS (lv_sub hl [1, 2, 3, 0] rfl)
set_option maxHeartbeats 4000000 in
set_option maxRecDepth 100000 in
theorem j_X9_image_49 {a1 : Int32} (C : cx p s m args meth c cX9_image 4 (some .int) RX9 G) (hC : clo I) (h0 : I (29, 0, 0, 0)) {Q : Int32 → Mem → Prop} : ∀ (n : Nat), ∀ (x2 : Int32) (x3 : Int32) (M : Mem) (H : Heap) (locs : List Loc) (ls : Array Slot), w_X9_image_49 a1 Q n x2 x3 M → wd G I ad M H → va_S (fA I ad) s.heap H locs → lv_has ls 4 [(0, .ref (ad (29, 0, 0, 0))), (1, .int a1), (2, .int x2), (3, .int x3)] → W p l e rm_X9_image s m args below meth c H locs 0 0 (MQ below (qI G I ad Q) args s 0 0 (fA I ad)) (F0 m 49 ls []) := by
  have hx := C.1
  have hb := C.2.1
  have hown := C.2.2.2.1
  have hts := C.2.2.2.2.1
  intro n
  induction n with
  | zero =>
    intro x2 x3 M H locs ls hw hP hS hl
    rw [w_X9_image_49] at hw
    exact hw.elim
  | succ n ih =>
    intro x2 x3 M H locs ls hw hP hS hl
    rw [w_X9_image_49] at hw
    refine lv_iload_n (pc := 49) hx hb dX9_image_49 rfl (lv_at hl 3 rfl) ?_
    refine lv_sipush (pc := 50) (v := (288 : Int32)) hx hb dX9_image_50 (by decide) ?_
    refine lv_icmp_ge (pc := 53) (tgt := 80) hx hb dX9_image_53 (by decide) (fun h => ?_) (fun h => ?_)
    · replace hw := if_t h hw
      refine lv_iconst (pc := 80) (v := (0 : Int32)) hx hb dX9_image_80 (by decide) ?_
      refine lv_istore_n (pc := 81) (lv' := [(3, .int (0 : Int32)), (0, .ref (ad (29, 0, 0, 0))), (1, .int a1), (2, .int x2)]) hx hb dX9_image_81 rfl hl (by decide) rfl (fun ls hl => ?_)
      obtain ⟨n0, hw⟩ := hw
      exact j_X9_image_82 C hC h0 n0 x2 (0 : Int32) M _ _ _ hw hP hS (lv_sub hl [1, 2, 3, 0] rfl)
    · replace hw := if_f h hw
      refine lv_aload_n (pc := 56) hx hb dX9_image_56 rfl (lv_at hl 0 rfl) ?_
      refine gf_732 (pc := 57) C hP h0 dX9_image_57 ?_
      refine lv_iload_n (pc := 60) hx hb dX9_image_60 rfl (lv_at hl 2 rfl) ?_
      refine lv_sipush (pc := 61) (v := (192 : Int32)) hx hb dX9_image_61 (by decide) ?_
      refine lv_iadd (pc := 64) hx hb dX9_image_64 ?_
      refine lv_iload_n (pc := 65) hx hb dX9_image_65 rfl (lv_at hl 3 rfl) ?_
      refine lv_iadd (pc := 66) hx hb dX9_image_66 ?_
      refine lv_aload_n (pc := 67) hx hb dX9_image_67 rfl (lv_at hl 0 rfl) ?_
      refine gf_718 (pc := 68) C hP h0 dX9_image_68 ?_
      refine lv_iload_n (pc := 71) hx hb dX9_image_71 rfl (lv_at hl 3 rfl) ?_
      refine r_ialdK (pc := 72) (n := 288) (k := x3.toNatClampNeg) C hP (cl_29_2 hC h0) (fun _ _ _ _ => rfl) hw.1 rfl dX9_image_72 ?_
      replace hw := hw.2
      refine r_iastK (pc := 73) (n := 1000) (k := ((x2 + (192 : Int32)) + x3).toNatClampNeg) C hP hS (cl_29_16 hC h0) (fun _ _ _ _ => rfl) hw.1 rfl dX9_image_73 (fun H locs hP hS => ?_)
      replace hw := hw.2
      refine lv_iinc (pc := 74) (v := x3 + 1) (lv' := [(3, .int (x3 + 1)), (0, .ref (ad (29, 0, 0, 0))), (1, .int a1), (2, .int x2)]) hx hb dX9_image_74 hl (k := 3) rfl rfl (by decide) rfl (fun ls hl => ?_)
      refine lv_goto (pc := 77) (tgt := 49) hx hb dX9_image_77 (by decide) ?_
      exact ih x2 (x3 + 1) (mu M (45, 0, 0, 0) (((x2 + (192 : Int32)) + x3).toNatClampNeg) (M.1 (32, 0, 0, 0) x3.toNatClampNeg)) _ _ _ hw hP hS (lv_sub hl [1, 2, 3, 0] rfl)
set_option maxHeartbeats 4000000 in
set_option maxRecDepth 100000 in
theorem j_X9_image_20 {a1 : Int32} (C : cx p s m args meth c cX9_image 4 (some .int) RX9 G) (hC : clo I) (h0 : I (29, 0, 0, 0)) {Q : Int32 → Mem → Prop} : ∀ (n : Nat), ∀ (x2 : Int32) (x3 : Int32) (M : Mem) (H : Heap) (locs : List Loc) (ls : Array Slot), w_X9_image_20 a1 Q n x2 x3 M → wd G I ad M H → va_S (fA I ad) s.heap H locs → lv_has ls 4 [(0, .ref (ad (29, 0, 0, 0))), (1, .int a1), (2, .int x2), (3, .int x3)] → W p l e rm_X9_image s m args below meth c H locs 0 0 (MQ below (qI G I ad Q) args s 0 0 (fA I ad)) (F0 m 20 ls []) := by
  have hx := C.1
  have hb := C.2.1
  have hown := C.2.2.2.1
  have hts := C.2.2.2.2.1
  intro n
  induction n with
  | zero =>
    intro x2 x3 M H locs ls hw hP hS hl
    rw [w_X9_image_20] at hw
    exact hw.elim
  | succ n ih =>
    intro x2 x3 M H locs ls hw hP hS hl
    rw [w_X9_image_20] at hw
    refine lv_iload_n (pc := 20) hx hb dX9_image_20 rfl (lv_at hl 3 rfl) ?_
    refine lv_sipush (pc := 21) (v := (192 : Int32)) hx hb dX9_image_21 (by decide) ?_
    refine lv_icmp_ge (pc := 24) (tgt := 47) hx hb dX9_image_24 (by decide) (fun h => ?_) (fun h => ?_)
    · replace hw := if_t h hw
      refine lv_iconst (pc := 47) (v := (0 : Int32)) hx hb dX9_image_47 (by decide) ?_
      refine lv_istore_n (pc := 48) (lv' := [(3, .int (0 : Int32)), (0, .ref (ad (29, 0, 0, 0))), (1, .int a1), (2, .int x2)]) hx hb dX9_image_48 rfl hl (by decide) rfl (fun ls hl => ?_)
      obtain ⟨n0, hw⟩ := hw
      exact j_X9_image_49 C hC h0 n0 x2 (0 : Int32) M _ _ _ hw hP hS (lv_sub hl [1, 2, 3, 0] rfl)
    · replace hw := if_f h hw
      refine lv_aload_n (pc := 27) hx hb dX9_image_27 rfl (lv_at hl 0 rfl) ?_
      refine gf_732 (pc := 28) C hP h0 dX9_image_28 ?_
      refine lv_iload_n (pc := 31) hx hb dX9_image_31 rfl (lv_at hl 2 rfl) ?_
      refine lv_iload_n (pc := 32) hx hb dX9_image_32 rfl (lv_at hl 3 rfl) ?_
      refine lv_iadd (pc := 33) hx hb dX9_image_33 ?_
      refine lv_aload_n (pc := 34) hx hb dX9_image_34 rfl (lv_at hl 0 rfl) ?_
      refine gf_716 (pc := 35) C hP h0 dX9_image_35 ?_
      refine lv_iload_n (pc := 38) hx hb dX9_image_38 rfl (lv_at hl 3 rfl) ?_
      refine r_ialdK (pc := 39) (n := 192) (k := x3.toNatClampNeg) C hP (cl_29_0 hC h0) (fun _ _ _ _ => rfl) hw.1 rfl dX9_image_39 ?_
      replace hw := hw.2
      refine r_iastK (pc := 40) (n := 1000) (k := (x2 + x3).toNatClampNeg) C hP hS (cl_29_16 hC h0) (fun _ _ _ _ => rfl) hw.1 rfl dX9_image_40 (fun H locs hP hS => ?_)
      replace hw := hw.2
      refine lv_iinc (pc := 41) (v := x3 + 1) (lv' := [(3, .int (x3 + 1)), (0, .ref (ad (29, 0, 0, 0))), (1, .int a1), (2, .int x2)]) hx hb dX9_image_41 hl (k := 3) rfl rfl (by decide) rfl (fun ls hl => ?_)
      refine lv_goto (pc := 44) (tgt := 20) hx hb dX9_image_44 (by decide) ?_
      exact ih x2 (x3 + 1) (mu M (45, 0, 0, 0) ((x2 + x3).toNatClampNeg) (M.1 (30, 0, 0, 0) x3.toNatClampNeg)) _ _ _ hw hP hS (lv_sub hl [1, 2, 3, 0] rfl)
set_option maxHeartbeats 4000000 in
set_option maxRecDepth 100000 in
theorem j_X9_image_0 {a1 : Int32} (C : cx p s m args meth c cX9_image 4 (some .int) RX9 G) (hC : clo I) (h0 : I (29, 0, 0, 0)) {Q : Int32 → Mem → Prop} : ∀ (M : Mem) (H : Heap) (locs : List Loc) (ls : Array Slot), w_X9_image a1 Q M → wd G I ad M H → va_S (fA I ad) s.heap H locs → lv_has ls 4 [(0, .ref (ad (29, 0, 0, 0))), (1, .int a1)] → W p l e rm_X9_image s m args below meth c H locs 0 0 (MQ below (qI G I ad Q) args s 0 0 (fA I ad)) (F0 m 0 ls []) := by
  have hx := C.1
  have hb := C.2.1
  have hown := C.2.2.2.1
  have hts := C.2.2.2.2.1
  intro M H locs ls hw hP hS hl
  unfold w_X9_image at hw
  refine lv_iload_n (pc := 0) hx hb dX9_image_0 rfl (lv_at hl 1 rfl) ?_
  refine lv_iconst (pc := 1) (v := (0 : Int32)) hx hb dX9_image_1 (by decide) ?_
  refine lv_iconst (pc := 2) (v := (1 : Int32)) hx hb dX9_image_2 (by decide) ?_
  refine r_cSI (pc := 3) (rest := []) (As := [.int a1, .int (0 : Int32), .int (1 : Int32)]) C hl.1 hP hS (k_X9_in l G hC  hw) mw_779 mw_780 mw_65 mw_781 ⟨rfl, rfl⟩ hd_X9_in rfl rfl ⟨Nat.le_of_ble_eq_true rfl, Nat.le_of_ble_eq_true rfl⟩ (Nat.le_of_ble_eq_true rfl) ⟨Nat.zero_le _, Nat.zero_le _⟩ dX9_image_3 (fun r3 M3 H locs hw hP hS => ?_)
  refine lv_if_ne (pc := 6) (tgt := 12) hx hb dX9_image_6 (by decide) (fun h => ?_) (fun h => ?_)
  · replace hw := if_f h hw
    refine lv_sipush (pc := 12) (v := (500 : Int32)) hx hb dX9_image_12 (by decide) ?_
    refine lv_iload_n (pc := 15) hx hb dX9_image_15 rfl (lv_at hl 1 rfl) ?_
    refine lv_imul (pc := 16) hx hb dX9_image_16 ?_
    refine lv_topi (fun x2_17 ex2_17 => ?_)
    replace hw := hw x2_17 ex2_17
    refine lv_istore_n (pc := 17) (lv' := [(2, .int x2_17), (0, .ref (ad (29, 0, 0, 0))), (1, .int a1)]) hx hb dX9_image_17 rfl hl (by decide) rfl (fun ls hl => ?_)
    refine lv_iconst (pc := 18) (v := (0 : Int32)) hx hb dX9_image_18 (by decide) ?_
    refine lv_istore_n (pc := 19) (lv' := [(3, .int (0 : Int32)), (2, .int x2_17), (0, .ref (ad (29, 0, 0, 0))), (1, .int a1)]) hx hb dX9_image_19 rfl hl (by decide) rfl (fun ls hl => ?_)
    obtain ⟨n0, hw⟩ := hw
    exact j_X9_image_20 C hC h0 n0 x2_17 (0 : Int32) M3 _ _ _ hw hP hS (lv_sub hl [2, 3, 1, 0] rfl)
  · replace hw := if_t h hw
    refine lv_bipush (pc := 9) (v := (-2 : Int32)) hx hb dX9_image_9 (by decide) ?_
    exact r_iret (pc := 11) C hP hS hw dX9_image_11
end
theorem k_X9_image (l : Launch) (G : GG) {I : ix → Prop} {ad : ix → Nat} (hC : clo I) {a1 : Int32} (h0 : I (29, 0, 0, 0)) {Q : Int32 → Mem → Prop} {M : Mem} (hw : w_X9_image a1 Q M) : Met l yX9_image (wW yX9_image cX9_image 4 (some .int)) rm_X9_image (va_Pc [.ref (ad (29, 0, 0, 0)), .int a1] (fun U => wd G I ad M U.heap ∧ wK G U)) (qI G I ad Q) 0 0 (fA I ad) := met_of (by decide +kernel) (Nat.le_of_ble_eq_true rfl) (fun p e s m below meth c C hP hS ls hl => j_X9_image_0 C hC h0 _ _ _ _ hw hP hS hl)
section
variable {p : Program} {l : Launch} {e : Env} {s : State} {m : MethodId} {args : Array Value} {below : List Frame} {meth : Method} {c : Code} 
variable  {G : GG} {I : ix → Prop} {ad : ix → Nat}
set_option maxHeartbeats 4000000 in
set_option maxRecDepth 100000 in
theorem j_X9_restore_94 {a1 : Int32} (C : cx p s m args meth c cX9_restore 4 (some .int) RX9 G) (hC : clo I) (h0 : I (29, 0, 0, 0)) {Q : Int32 → Mem → Prop} : ∀ (n : Nat), ∀ (x2 : Int32) (x3 : Int32) (M : Mem) (H : Heap) (locs : List Loc) (ls : Array Slot), w_X9_restore_94 a1 Q n x2 x3 M → wd G I ad M H → va_S (fA I ad) s.heap H locs → lv_has ls 4 [(0, .ref (ad (29, 0, 0, 0))), (2, .int x2), (3, .int x3)] → W p l e rm_X9_restore s m args below meth c H locs 0 0 (MQ below (qI G I ad Q) args s 0 0 (fA I ad)) (F0 m 94 ls []) := by
  have hx := C.1
  have hb := C.2.1
  have hown := C.2.2.2.1
  have hts := C.2.2.2.2.1
  intro n
  induction n with
  | zero =>
    intro x2 x3 M H locs ls hw hP hS hl
    rw [w_X9_restore_94] at hw
    exact hw.elim
  | succ n ih =>
    intro x2 x3 M H locs ls hw hP hS hl
    rw [w_X9_restore_94] at hw
    refine lv_iload_n (pc := 94) hx hb dX9_restore_94 rfl (lv_at hl 2 rfl) ?_
    refine lv_bipush (pc := 95) (v := (6 : Int32)) hx hb dX9_restore_95 (by decide) ?_
    refine lv_icmp_ge (pc := 97) (tgt := 124) hx hb dX9_restore_97 (by decide) (fun h => ?_) (fun h => ?_)
    · replace hw := if_t h hw
      refine lv_iconst (pc := 124) (v := (1 : Int32)) hx hb dX9_restore_124 (by decide) ?_
      exact r_iret (pc := 125) C hP hS hw dX9_restore_125
    · replace hw := if_f h hw
      refine lv_aload_n (pc := 100) hx hb dX9_restore_100 rfl (lv_at hl 0 rfl) ?_
      refine gf_717 (pc := 101) C hP h0 dX9_restore_101 ?_
      refine lv_iload_n (pc := 104) hx hb dX9_restore_104 rfl (lv_at hl 2 rfl) ?_
      refine lv_aload_n (pc := 105) hx hb dX9_restore_105 rfl (lv_at hl 0 rfl) ?_
      refine gf_732 (pc := 106) C hP h0 dX9_restore_106 ?_
      refine lv_iload_n (pc := 109) hx hb dX9_restore_109 rfl (lv_at hl 1 rfl) ?_
      refine lv_sipush (pc := 110) (v := (480 : Int32)) hx hb dX9_restore_110 (by decide) ?_
      refine lv_iadd (pc := 113) hx hb dX9_restore_113 ?_
      refine lv_iload_n (pc := 114) hx hb dX9_restore_114 rfl (lv_at hl 2 rfl) ?_
      refine lv_iadd (pc := 115) hx hb dX9_restore_115 ?_
      refine r_ialdK (pc := 116) (n := 1000) (k := ((x2 + (480 : Int32)) + x3).toNatClampNeg) C hP (cl_29_16 hC h0) (fun _ _ _ _ => rfl) hw.1 rfl dX9_restore_116 ?_
      replace hw := hw.2
      refine r_iastK (pc := 117) (n := 6) (k := x3.toNatClampNeg) C hP hS (cl_29_1 hC h0) (fun _ _ _ _ => rfl) hw.1 rfl dX9_restore_117 (fun H locs hP hS => ?_)
      replace hw := hw.2
      refine lv_iinc (pc := 118) (v := x3 + 1) (lv' := [(3, .int (x3 + 1)), (0, .ref (ad (29, 0, 0, 0))), (2, .int x2)]) hx hb dX9_restore_118 hl (k := 2) rfl rfl (by decide) rfl (fun ls hl => ?_)
      refine lv_goto (pc := 121) (tgt := 94) hx hb dX9_restore_121 (by decide) ?_
      exact ih x2 (x3 + 1) (mu M (31, 0, 0, 0) (x3.toNatClampNeg) (M.1 (45, 0, 0, 0) (((x2 + (480 : Int32)) + x3).toNatClampNeg))) _ _ _ hw hP hS (lv_sub hl [1, 2, 0] rfl)
set_option maxHeartbeats 4000000 in
set_option maxRecDepth 100000 in
theorem j_X9_restore_61 {a1 : Int32} (C : cx p s m args meth c cX9_restore 4 (some .int) RX9 G) (hC : clo I) (h0 : I (29, 0, 0, 0)) {Q : Int32 → Mem → Prop} : ∀ (n : Nat), ∀ (x2 : Int32) (x3 : Int32) (M : Mem) (H : Heap) (locs : List Loc) (ls : Array Slot), w_X9_restore_61 a1 Q n x2 x3 M → wd G I ad M H → va_S (fA I ad) s.heap H locs → lv_has ls 4 [(0, .ref (ad (29, 0, 0, 0))), (2, .int x2), (3, .int x3)] → W p l e rm_X9_restore s m args below meth c H locs 0 0 (MQ below (qI G I ad Q) args s 0 0 (fA I ad)) (F0 m 61 ls []) := by
  have hx := C.1
  have hb := C.2.1
  have hown := C.2.2.2.1
  have hts := C.2.2.2.2.1
  intro n
  induction n with
  | zero =>
    intro x2 x3 M H locs ls hw hP hS hl
    rw [w_X9_restore_61] at hw
    exact hw.elim
  | succ n ih =>
    intro x2 x3 M H locs ls hw hP hS hl
    rw [w_X9_restore_61] at hw
    refine lv_iload_n (pc := 61) hx hb dX9_restore_61 rfl (lv_at hl 2 rfl) ?_
    refine lv_sipush (pc := 62) (v := (288 : Int32)) hx hb dX9_restore_62 (by decide) ?_
    refine lv_icmp_ge (pc := 65) (tgt := 92) hx hb dX9_restore_65 (by decide) (fun h => ?_) (fun h => ?_)
    · replace hw := if_t h hw
      refine lv_iconst (pc := 92) (v := (0 : Int32)) hx hb dX9_restore_92 (by decide) ?_
      refine lv_istore_n (pc := 93) (lv' := [(3, .int (0 : Int32)), (0, .ref (ad (29, 0, 0, 0))), (2, .int x2)]) hx hb dX9_restore_93 rfl hl (by decide) rfl (fun ls hl => ?_)
      obtain ⟨n0, hw⟩ := hw
      exact j_X9_restore_94 C hC h0 n0 x2 (0 : Int32) M _ _ _ hw hP hS (lv_sub hl [1, 2, 0] rfl)
    · replace hw := if_f h hw
      refine lv_aload_n (pc := 68) hx hb dX9_restore_68 rfl (lv_at hl 0 rfl) ?_
      refine gf_718 (pc := 69) C hP h0 dX9_restore_69 ?_
      refine lv_iload_n (pc := 72) hx hb dX9_restore_72 rfl (lv_at hl 2 rfl) ?_
      refine lv_aload_n (pc := 73) hx hb dX9_restore_73 rfl (lv_at hl 0 rfl) ?_
      refine gf_732 (pc := 74) C hP h0 dX9_restore_74 ?_
      refine lv_iload_n (pc := 77) hx hb dX9_restore_77 rfl (lv_at hl 1 rfl) ?_
      refine lv_sipush (pc := 78) (v := (192 : Int32)) hx hb dX9_restore_78 (by decide) ?_
      refine lv_iadd (pc := 81) hx hb dX9_restore_81 ?_
      refine lv_iload_n (pc := 82) hx hb dX9_restore_82 rfl (lv_at hl 2 rfl) ?_
      refine lv_iadd (pc := 83) hx hb dX9_restore_83 ?_
      refine r_ialdK (pc := 84) (n := 1000) (k := ((x2 + (192 : Int32)) + x3).toNatClampNeg) C hP (cl_29_16 hC h0) (fun _ _ _ _ => rfl) hw.1 rfl dX9_restore_84 ?_
      replace hw := hw.2
      refine r_iastK (pc := 85) (n := 288) (k := x3.toNatClampNeg) C hP hS (cl_29_2 hC h0) (fun _ _ _ _ => rfl) hw.1 rfl dX9_restore_85 (fun H locs hP hS => ?_)
      replace hw := hw.2
      refine lv_iinc (pc := 86) (v := x3 + 1) (lv' := [(3, .int (x3 + 1)), (0, .ref (ad (29, 0, 0, 0))), (2, .int x2)]) hx hb dX9_restore_86 hl (k := 2) rfl rfl (by decide) rfl (fun ls hl => ?_)
      refine lv_goto (pc := 89) (tgt := 61) hx hb dX9_restore_89 (by decide) ?_
      exact ih x2 (x3 + 1) (mu M (32, 0, 0, 0) (x3.toNatClampNeg) (M.1 (45, 0, 0, 0) (((x2 + (192 : Int32)) + x3).toNatClampNeg))) _ _ _ hw hP hS (lv_sub hl [1, 2, 0] rfl)
set_option maxHeartbeats 4000000 in
set_option maxRecDepth 100000 in
theorem j_X9_restore_32 {a1 : Int32} (C : cx p s m args meth c cX9_restore 4 (some .int) RX9 G) (hC : clo I) (h0 : I (29, 0, 0, 0)) {Q : Int32 → Mem → Prop} : ∀ (n : Nat), ∀ (x2 : Int32) (x3 : Int32) (M : Mem) (H : Heap) (locs : List Loc) (ls : Array Slot), w_X9_restore_32 a1 Q n x2 x3 M → wd G I ad M H → va_S (fA I ad) s.heap H locs → lv_has ls 4 [(0, .ref (ad (29, 0, 0, 0))), (2, .int x2), (3, .int x3)] → W p l e rm_X9_restore s m args below meth c H locs 0 0 (MQ below (qI G I ad Q) args s 0 0 (fA I ad)) (F0 m 32 ls []) := by
  have hx := C.1
  have hb := C.2.1
  have hown := C.2.2.2.1
  have hts := C.2.2.2.2.1
  intro n
  induction n with
  | zero =>
    intro x2 x3 M H locs ls hw hP hS hl
    rw [w_X9_restore_32] at hw
    exact hw.elim
  | succ n ih =>
    intro x2 x3 M H locs ls hw hP hS hl
    rw [w_X9_restore_32] at hw
    refine lv_iload_n (pc := 32) hx hb dX9_restore_32 rfl (lv_at hl 2 rfl) ?_
    refine lv_sipush (pc := 33) (v := (192 : Int32)) hx hb dX9_restore_33 (by decide) ?_
    refine lv_icmp_ge (pc := 36) (tgt := 59) hx hb dX9_restore_36 (by decide) (fun h => ?_) (fun h => ?_)
    · replace hw := if_t h hw
      refine lv_iconst (pc := 59) (v := (0 : Int32)) hx hb dX9_restore_59 (by decide) ?_
      refine lv_istore_n (pc := 60) (lv' := [(3, .int (0 : Int32)), (0, .ref (ad (29, 0, 0, 0))), (2, .int x2)]) hx hb dX9_restore_60 rfl hl (by decide) rfl (fun ls hl => ?_)
      obtain ⟨n0, hw⟩ := hw
      exact j_X9_restore_61 C hC h0 n0 x2 (0 : Int32) M _ _ _ hw hP hS (lv_sub hl [1, 2, 0] rfl)
    · replace hw := if_f h hw
      refine lv_aload_n (pc := 39) hx hb dX9_restore_39 rfl (lv_at hl 0 rfl) ?_
      refine gf_716 (pc := 40) C hP h0 dX9_restore_40 ?_
      refine lv_iload_n (pc := 43) hx hb dX9_restore_43 rfl (lv_at hl 2 rfl) ?_
      refine lv_aload_n (pc := 44) hx hb dX9_restore_44 rfl (lv_at hl 0 rfl) ?_
      refine gf_732 (pc := 45) C hP h0 dX9_restore_45 ?_
      refine lv_iload_n (pc := 48) hx hb dX9_restore_48 rfl (lv_at hl 1 rfl) ?_
      refine lv_iload_n (pc := 49) hx hb dX9_restore_49 rfl (lv_at hl 2 rfl) ?_
      refine lv_iadd (pc := 50) hx hb dX9_restore_50 ?_
      refine r_ialdK (pc := 51) (n := 1000) (k := (x2 + x3).toNatClampNeg) C hP (cl_29_16 hC h0) (fun _ _ _ _ => rfl) hw.1 rfl dX9_restore_51 ?_
      replace hw := hw.2
      refine r_iastK (pc := 52) (n := 192) (k := x3.toNatClampNeg) C hP hS (cl_29_0 hC h0) (fun _ _ _ _ => rfl) hw.1 rfl dX9_restore_52 (fun H locs hP hS => ?_)
      replace hw := hw.2
      refine lv_iinc (pc := 53) (v := x3 + 1) (lv' := [(3, .int (x3 + 1)), (0, .ref (ad (29, 0, 0, 0))), (2, .int x2)]) hx hb dX9_restore_53 hl (k := 2) rfl rfl (by decide) rfl (fun ls hl => ?_)
      refine lv_goto (pc := 56) (tgt := 32) hx hb dX9_restore_56 (by decide) ?_
      exact ih x2 (x3 + 1) (mu M (30, 0, 0, 0) (x3.toNatClampNeg) (M.1 (45, 0, 0, 0) ((x2 + x3).toNatClampNeg))) _ _ _ hw hP hS (lv_sub hl [1, 2, 0] rfl)
set_option maxHeartbeats 4000000 in
set_option maxRecDepth 100000 in
theorem j_X9_restore_0 {a1 : Int32} (C : cx p s m args meth c cX9_restore 4 (some .int) RX9 G) (hC : clo I) (h0 : I (29, 0, 0, 0)) {Q : Int32 → Mem → Prop} : ∀ (M : Mem) (H : Heap) (locs : List Loc) (ls : Array Slot), w_X9_restore a1 Q M → wd G I ad M H → va_S (fA I ad) s.heap H locs → lv_has ls 4 [(0, .ref (ad (29, 0, 0, 0))), (1, .int a1)] → W p l e rm_X9_restore s m args below meth c H locs 0 0 (MQ below (qI G I ad Q) args s 0 0 (fA I ad)) (F0 m 0 ls []) := by
  have hx := C.1
  have hb := C.2.1
  have hown := C.2.2.2.1
  have hts := C.2.2.2.2.1
  intro M H locs ls hw hP hS hl
  unfold w_X9_restore at hw
  refine lv_iload_n (pc := 0) hx hb dX9_restore_0 rfl (lv_at hl 1 rfl) ?_
  refine lv_iconst (pc := 1) (v := (0 : Int32)) hx hb dX9_restore_1 (by decide) ?_
  refine lv_iconst (pc := 2) (v := (1 : Int32)) hx hb dX9_restore_2 (by decide) ?_
  refine r_cSI (pc := 3) (rest := []) (As := [.int a1, .int (0 : Int32), .int (1 : Int32)]) C hl.1 hP hS (k_X9_in l G hC  hw) mw_779 mw_780 mw_65 mw_781 ⟨rfl, rfl⟩ hd_X9_in rfl rfl ⟨Nat.le_of_ble_eq_true rfl, Nat.le_of_ble_eq_true rfl⟩ (Nat.le_of_ble_eq_true rfl) ⟨Nat.zero_le _, Nat.zero_le _⟩ dX9_restore_3 (fun r3 M3 H locs hw hP hS => ?_)
  refine lv_if_ne (pc := 6) (tgt := 12) hx hb dX9_restore_6 (by decide) (fun h => ?_) (fun h => ?_)
  · replace hw := if_f h hw
    refine lv_aload_n (pc := 12) hx hb dX9_restore_12 rfl (lv_at hl 0 rfl) ?_
    refine gf_733 (pc := 13) C hP h0 dX9_restore_13 ?_
    refine lv_iload_n (pc := 16) hx hb dX9_restore_16 rfl (lv_at hl 1 rfl) ?_
    refine r_zald (pc := 17) C hP (cl_29_17 hC h0) hw.1 dX9_restore_17 ?_
    replace hw := hw.2
    refine lv_if_ne (pc := 18) (tgt := 24) hx hb dX9_restore_18 (by decide) (fun h => ?_) (fun h => ?_)
    · replace hw := if_f h hw
      refine lv_sipush (pc := 24) (v := (500 : Int32)) hx hb dX9_restore_24 (by decide) ?_
      refine lv_iload_n (pc := 27) hx hb dX9_restore_27 rfl (lv_at hl 1 rfl) ?_
      refine lv_imul (pc := 28) hx hb dX9_restore_28 ?_
      refine lv_topi (fun x2_29 ex2_29 => ?_)
      replace hw := hw x2_29 ex2_29
      refine lv_istore_n (pc := 29) (lv' := [(2, .int x2_29), (0, .ref (ad (29, 0, 0, 0))), (1, .int a1)]) hx hb dX9_restore_29 rfl hl (by decide) rfl (fun ls hl => ?_)
      refine lv_iconst (pc := 30) (v := (0 : Int32)) hx hb dX9_restore_30 (by decide) ?_
      refine lv_istore_n (pc := 31) (lv' := [(3, .int (0 : Int32)), (2, .int x2_29), (0, .ref (ad (29, 0, 0, 0))), (1, .int a1)]) hx hb dX9_restore_31 rfl hl (by decide) rfl (fun ls hl => ?_)
      obtain ⟨n0, hw⟩ := hw
      exact j_X9_restore_32 C hC h0 n0 x2_29 (0 : Int32) M3 _ _ _ hw hP hS (lv_sub hl [2, 1, 0] rfl)
    · replace hw := if_t h hw
      refine lv_bipush (pc := 21) (v := (-3 : Int32)) hx hb dX9_restore_21 (by decide) ?_
      exact r_iret (pc := 23) C hP hS hw dX9_restore_23
  · replace hw := if_t h hw
    refine lv_bipush (pc := 9) (v := (-2 : Int32)) hx hb dX9_restore_9 (by decide) ?_
    exact r_iret (pc := 11) C hP hS hw dX9_restore_11
end
theorem k_X9_restore (l : Launch) (G : GG) {I : ix → Prop} {ad : ix → Nat} (hC : clo I) {a1 : Int32} (h0 : I (29, 0, 0, 0)) {Q : Int32 → Mem → Prop} {M : Mem} (hw : w_X9_restore a1 Q M) : Met l yX9_restore (wW yX9_restore cX9_restore 4 (some .int)) rm_X9_restore (va_Pc [.ref (ad (29, 0, 0, 0)), .int a1] (fun U => wd G I ad M U.heap ∧ wK G U)) (qI G I ad Q) 0 0 (fA I ad) := met_of (by decide +kernel) (Nat.le_of_ble_eq_true rfl) (fun p e s m below meth c C hP hS ls hl => j_X9_restore_0 C hC h0 _ _ _ _ hw hP hS hl)
section
variable {p : Program} {l : Launch} {e : Env} {s : State} {m : MethodId} {args : Array Value} {below : List Frame} {meth : Method} {c : Code} 
variable  {G : GG} {I : ix → Prop} {ad : ix → Nat}
set_option maxHeartbeats 4000000 in
set_option maxRecDepth 100000 in
theorem j_X9_told_137 {a1 : Int32} (C : cx p s m args meth c cX9_told 7 (some .int) RX9 G) (hC : clo I) (h0 : I (29, 0, 0, 0)) {Q : Int32 → Mem → Prop} : ∀ (n : Nat), ∀ (x2 : Int32) (x3 : Int32) (M : Mem) (H : Heap) (locs : List Loc) (ls : Array Slot), w_X9_told_137 a1 Q n x2 x3 M → wd G I ad M H → va_S (fA I ad) s.heap H locs → lv_has ls 7 [(0, .ref (ad (29, 0, 0, 0))), (1, .int a1), (2, .int x2), (3, .int x3)] → W p l e rm_X9_told s m args below meth c H locs 0 0 (MQ below (qI G I ad Q) args s 0 0 (fA I ad)) (F0 m 137 ls []) := by
  have hx := C.1
  have hb := C.2.1
  have hown := C.2.2.2.1
  have hts := C.2.2.2.2.1
  intro n
  induction n with
  | zero =>
    intro x2 x3 M H locs ls hw hP hS hl
    rw [w_X9_told_137] at hw
    exact hw.elim
  | succ n ih =>
    intro x2 x3 M H locs ls hw hP hS hl
    rw [w_X9_told_137] at hw
    refine lv_iload_n (pc := 137) hx hb dX9_told_137 rfl (lv_at hl 3 rfl) ?_
    refine lv_bipush (pc := 138) (v := (6 : Int32)) hx hb dX9_told_138 (by decide) ?_
    refine lv_icmp_ge (pc := 140) (tgt := 158) hx hb dX9_told_140 (by decide) (fun h => ?_) (fun h => ?_)
    · replace hw := if_t h hw
      refine lv_iload_n (pc := 158) hx hb dX9_told_158 rfl (lv_at hl 1 rfl) ?_
      refine lv_if_ne (pc := 159) (tgt := 169) hx hb dX9_told_159 (by decide) (fun h => ?_) (fun h => ?_)
      · replace hw := if_f h hw
        refine lv_iload_n (pc := 169) hx hb dX9_told_169 rfl (lv_at hl 1 rfl) ?_
        refine lv_iconst (pc := 170) (v := (1 : Int32)) hx hb dX9_told_170 (by decide) ?_
        refine lv_icmp_ne (pc := 171) (tgt := 178) hx hb dX9_told_171 (by decide) (fun h => ?_) (fun h => ?_)
        · replace hw := if_f h hw
          refine lv_bipush (pc := 178) (v := (-2 : Int32)) hx hb dX9_told_178 (by decide) ?_
          exact r_iret (pc := 180) C hP hS hw dX9_told_180
        · replace hw := if_t h hw
          refine lv_iload_n (pc := 174) hx hb dX9_told_174 rfl (lv_at hl 2 rfl) ?_
          refine lv_goto (pc := 175) (tgt := 180) hx hb dX9_told_175 (by decide) ?_
          exact r_iret (pc := 180) C hP hS hw dX9_told_180
      · replace hw := if_t h hw
        refine lv_aload_n (pc := 162) hx hb dX9_told_162 rfl (lv_at hl 0 rfl) ?_
        refine gf_720 (pc := 163) C hP h0 dX9_told_163 ?_
        refine lv_goto (pc := 166) (tgt := 180) hx hb dX9_told_166 (by decide) ?_
        exact r_iret (pc := 180) C hP hS hw dX9_told_180
    · replace hw := if_f h hw
      refine lv_iload_n (pc := 143) hx hb dX9_told_143 rfl (lv_at hl 2 rfl) ?_
      refine lv_aload_n (pc := 144) hx hb dX9_told_144 rfl (lv_at hl 0 rfl) ?_
      refine gf_717 (pc := 145) C hP h0 dX9_told_145 ?_
      refine lv_iload_n (pc := 148) hx hb dX9_told_148 rfl (lv_at hl 3 rfl) ?_
      refine r_ialdK (pc := 149) (n := 6) (k := x3.toNatClampNeg) C hP (cl_29_1 hC h0) (fun _ _ _ _ => rfl) hw.1 rfl dX9_told_149 ?_
      replace hw := hw.2
      refine lv_iadd (pc := 150) hx hb dX9_told_150 ?_
      refine lv_topi (fun x2_151 ex2_151 => ?_)
      replace hw := hw x2_151 ex2_151
      refine lv_istore_n (pc := 151) (lv' := [(2, .int x2_151), (0, .ref (ad (29, 0, 0, 0))), (1, .int a1), (3, .int x3)]) hx hb dX9_told_151 rfl hl (by decide) rfl (fun ls hl => ?_)
      refine lv_iinc (pc := 152) (v := x3 + 1) (lv' := [(3, .int (x3 + 1)), (2, .int x2_151), (0, .ref (ad (29, 0, 0, 0))), (1, .int a1)]) hx hb dX9_told_152 hl (k := 3) rfl rfl (by decide) rfl (fun ls hl => ?_)
      refine lv_goto (pc := 155) (tgt := 137) hx hb dX9_told_155 (by decide) ?_
      exact ih x2_151 (x3 + 1) M _ _ _ hw hP hS (lv_sub hl [2, 3, 1, 0] rfl)
set_option maxHeartbeats 4000000 in
set_option maxRecDepth 100000 in
theorem j_X9_told_43 {a1 : Int32} (C : cx p s m args meth c cX9_told 7 (some .int) RX9 G) (hC : clo I) (h0 : I (29, 0, 0, 0)) {Q : Int32 → Mem → Prop} {B26 : Int32 → Int32 → Int32 → Mem → Prop} (hB26 : ∀ (x2 : Int32) (x3 : Int32) (x4 : Int32) (M : Mem) (H : Heap) (locs : List Loc) (ls : Array Slot), B26 x2 x3 x4 M → wd G I ad M H → va_S (fA I ad) s.heap H locs → lv_has ls 7 [(0, .ref (ad (29, 0, 0, 0))), (2, .int x2), (3, .int x3), (4, .int x4)] → W p l e rm_X9_told s m args below meth c H locs 0 0 (MQ below (qI G I ad Q) args s 0 0 (fA I ad)) (F0 m 26 ls [])) : ∀ (n : Nat), ∀ (x2 : Int32) (x3 : Int32) (x4 : Int32) (x5 : Int32) (x6 : Int32) (M : Mem) (H : Heap) (locs : List Loc) (ls : Array Slot), w_X9_told_43 a1 Q B26 n x2 x3 x4 x5 x6 M → wd G I ad M H → va_S (fA I ad) s.heap H locs → lv_has ls 7 [(0, .ref (ad (29, 0, 0, 0))), (2, .int x2), (3, .int x3), (4, .int x4), (5, .int x5), (6, .int x6)] → W p l e rm_X9_told s m args below meth c H locs 0 0 (MQ below (qI G I ad Q) args s 0 0 (fA I ad)) (F0 m 43 ls []) := by
  have hx := C.1
  have hb := C.2.1
  have hown := C.2.2.2.1
  have hts := C.2.2.2.2.1
  intro n
  induction n with
  | zero =>
    intro x2 x3 x4 x5 x6 M H locs ls hw hP hS hl
    rw [w_X9_told_43] at hw
    exact hw.elim
  | succ n ih =>
    intro x2 x3 x4 x5 x6 M H locs ls hw hP hS hl
    rw [w_X9_told_43] at hw
    refine lv_iload (pc := 43) hx hb dX9_told_43 (lv_at hl 5 rfl) ?_
    refine lv_iload (pc := 45) hx hb dX9_told_45 (lv_at hl 3 rfl) ?_
    refine lv_icmp_ge (pc := 47) (tgt := 81) hx hb dX9_told_47 (by decide) (fun h => ?_) (fun h => ?_)
    · replace hw := if_t h hw
      refine lv_iload_n (pc := 81) hx hb dX9_told_81 rfl (lv_at hl 2 rfl) ?_
      refine lv_iload (pc := 82) hx hb dX9_told_82 (lv_at hl 4 rfl) ?_
      refine lv_if_eq (pc := 84) (tgt := 91) hx hb dX9_told_84 (by decide) (fun h => ?_) (fun h => ?_)
      · replace hw := if_t h hw
        refine lv_iconst (pc := 91) (v := (0 : Int32)) hx hb dX9_told_91 (by decide) ?_
        refine lv_iadd (pc := 92) hx hb dX9_told_92 ?_
        refine lv_topi (fun x3_93 ex3_93 => ?_)
        replace hw := hw x3_93 ex3_93
        refine lv_istore_n (pc := 93) (lv' := [(3, .int x3_93), (0, .ref (ad (29, 0, 0, 0))), (2, .int x2), (4, .int x4), (5, .int x5), (6, .int x6)]) hx hb dX9_told_93 rfl hl (by decide) rfl (fun ls hl => ?_)
        refine lv_iinc (pc := 94) (v := x4 + 1) (lv' := [(4, .int (x4 + 1)), (3, .int x3_93), (0, .ref (ad (29, 0, 0, 0))), (2, .int x2), (5, .int x5), (6, .int x6)]) hx hb dX9_told_94 hl (k := 3) rfl rfl (by decide) rfl (fun ls hl => ?_)
        refine lv_goto (pc := 97) (tgt := 26) hx hb dX9_told_97 (by decide) ?_
        exact hB26 x2 x3_93 (x4 + 1) M _ _ _ hw hP hS (lv_sub hl [2, 3, 1, 0] rfl)
      · replace hw := if_f h hw
        refine lv_iconst (pc := 87) (v := (1 : Int32)) hx hb dX9_told_87 (by decide) ?_
        refine lv_goto (pc := 88) (tgt := 92) hx hb dX9_told_88 (by decide) ?_
        refine lv_iadd (pc := 92) hx hb dX9_told_92 ?_
        refine lv_topi (fun x3_93 ex3_93 => ?_)
        replace hw := hw x3_93 ex3_93
        refine lv_istore_n (pc := 93) (lv' := [(3, .int x3_93), (0, .ref (ad (29, 0, 0, 0))), (2, .int x2), (4, .int x4), (5, .int x5), (6, .int x6)]) hx hb dX9_told_93 rfl hl (by decide) rfl (fun ls hl => ?_)
        refine lv_iinc (pc := 94) (v := x4 + 1) (lv' := [(4, .int (x4 + 1)), (3, .int x3_93), (0, .ref (ad (29, 0, 0, 0))), (2, .int x2), (5, .int x5), (6, .int x6)]) hx hb dX9_told_94 hl (k := 3) rfl rfl (by decide) rfl (fun ls hl => ?_)
        refine lv_goto (pc := 97) (tgt := 26) hx hb dX9_told_97 (by decide) ?_
        exact hB26 x2 x3_93 (x4 + 1) M _ _ _ hw hP hS (lv_sub hl [2, 3, 1, 0] rfl)
    · replace hw := if_f h hw
      refine lv_iload (pc := 50) hx hb dX9_told_50 (lv_at hl 4 rfl) ?_
      refine lv_if_eq (pc := 52) (tgt := 72) hx hb dX9_told_52 (by decide) (fun h => ?_) (fun h => ?_)
      · replace hw := if_t h hw
        refine lv_iconst (pc := 72) (v := (0 : Int32)) hx hb dX9_told_72 (by decide) ?_
        refine lv_istore (pc := 73) (lv' := [(5, .int (0 : Int32)), (0, .ref (ad (29, 0, 0, 0))), (2, .int x2), (3, .int x3), (4, .int x4), (6, .int x6)]) hx hb dX9_told_73 hl (by decide) rfl (fun ls hl => ?_)
        refine lv_iinc (pc := 75) (v := x6 + 1) (lv' := [(6, .int (x6 + 1)), (5, .int (0 : Int32)), (0, .ref (ad (29, 0, 0, 0))), (2, .int x2), (3, .int x3), (4, .int x4)]) hx hb dX9_told_75 hl (k := 5) rfl rfl (by decide) rfl (fun ls hl => ?_)
        refine lv_goto (pc := 78) (tgt := 43) hx hb dX9_told_78 (by decide) ?_
        exact ih x2 x3 x4 (0 : Int32) (x6 + 1) M _ _ _ hw hP hS (lv_sub hl [2, 3, 4, 5, 1, 0] rfl)
      · replace hw := if_f h hw
        refine lv_aload_n (pc := 55) hx hb dX9_told_55 rfl (lv_at hl 0 rfl) ?_
        refine lv_iload_n (pc := 56) hx hb dX9_told_56 rfl (lv_at hl 1 rfl) ?_
        refine lv_iload (pc := 57) hx hb dX9_told_57 (lv_at hl 3 rfl) ?_
        refine lv_iload_n (pc := 59) hx hb dX9_told_59 rfl (lv_at hl 1 rfl) ?_
        refine lv_iload (pc := 60) hx hb dX9_told_60 (lv_at hl 5 rfl) ?_
        refine r_cVI (pc := 62) (rest := []) (As := [.int x2, .int x4, .int x2, .int x6]) C hl.1 hP hS (k_X9_isLike l G hC h0 hw) h0 rfl rfl mw_948 mw_950 mw_54 mw_65 mw_951 ⟨rfl, rfl⟩ hd_X9_isLike rfl rfl ⟨Nat.le_of_ble_eq_true rfl, Nat.le_of_ble_eq_true rfl⟩ (Nat.le_of_ble_eq_true rfl) ⟨Nat.zero_le _, Nat.zero_le _⟩ dX9_told_62 (fun r62 M62 H locs hw hP hS => ?_)
        refine lv_if_ne (pc := 65) (tgt := 72) hx hb dX9_told_65 (by decide) (fun h => ?_) (fun h => ?_)
        · replace hw := if_f h hw
          refine lv_iconst (pc := 72) (v := (0 : Int32)) hx hb dX9_told_72 (by decide) ?_
          refine lv_istore (pc := 73) (lv' := [(5, .int (0 : Int32)), (0, .ref (ad (29, 0, 0, 0))), (2, .int x2), (3, .int x3), (4, .int x4), (6, .int x6)]) hx hb dX9_told_73 hl (by decide) rfl (fun ls hl => ?_)
          refine lv_iinc (pc := 75) (v := x6 + 1) (lv' := [(6, .int (x6 + 1)), (5, .int (0 : Int32)), (0, .ref (ad (29, 0, 0, 0))), (2, .int x2), (3, .int x3), (4, .int x4)]) hx hb dX9_told_75 hl (k := 5) rfl rfl (by decide) rfl (fun ls hl => ?_)
          refine lv_goto (pc := 78) (tgt := 43) hx hb dX9_told_78 (by decide) ?_
          exact ih x2 x3 x4 (0 : Int32) (x6 + 1) M62 _ _ _ hw hP hS (lv_sub hl [2, 3, 4, 5, 1, 0] rfl)
        · replace hw := if_t h hw
          refine lv_iconst (pc := 68) (v := (1 : Int32)) hx hb dX9_told_68 (by decide) ?_
          refine lv_goto (pc := 69) (tgt := 73) hx hb dX9_told_69 (by decide) ?_
          refine lv_istore (pc := 73) (lv' := [(5, .int (1 : Int32)), (0, .ref (ad (29, 0, 0, 0))), (2, .int x2), (3, .int x3), (4, .int x4), (6, .int x6)]) hx hb dX9_told_73 hl (by decide) rfl (fun ls hl => ?_)
          refine lv_iinc (pc := 75) (v := x6 + 1) (lv' := [(6, .int (x6 + 1)), (5, .int (1 : Int32)), (0, .ref (ad (29, 0, 0, 0))), (2, .int x2), (3, .int x3), (4, .int x4)]) hx hb dX9_told_75 hl (k := 5) rfl rfl (by decide) rfl (fun ls hl => ?_)
          refine lv_goto (pc := 78) (tgt := 43) hx hb dX9_told_78 (by decide) ?_
          exact ih x2 x3 x4 (1 : Int32) (x6 + 1) M62 _ _ _ hw hP hS (lv_sub hl [2, 3, 4, 5, 1, 0] rfl)
set_option maxHeartbeats 4000000 in
set_option maxRecDepth 100000 in
theorem j_X9_told_26 {a1 : Int32} (C : cx p s m args meth c cX9_told 7 (some .int) RX9 G) (hC : clo I) (h0 : I (29, 0, 0, 0)) {Q : Int32 → Mem → Prop} : ∀ (n : Nat), ∀ (x2 : Int32) (x3 : Int32) (x4 : Int32) (M : Mem) (H : Heap) (locs : List Loc) (ls : Array Slot), w_X9_told_26 a1 Q n x2 x3 x4 M → wd G I ad M H → va_S (fA I ad) s.heap H locs → lv_has ls 7 [(0, .ref (ad (29, 0, 0, 0))), (2, .int x2), (3, .int x3), (4, .int x4)] → W p l e rm_X9_told s m args below meth c H locs 0 0 (MQ below (qI G I ad Q) args s 0 0 (fA I ad)) (F0 m 26 ls []) := by
  have hx := C.1
  have hb := C.2.1
  have hown := C.2.2.2.1
  have hts := C.2.2.2.2.1
  intro n
  induction n with
  | zero =>
    intro x2 x3 x4 M H locs ls hw hP hS hl
    rw [w_X9_told_26] at hw
    exact hw.elim
  | succ n ih =>
    intro x2 x3 x4 M H locs ls hw hP hS hl
    rw [w_X9_told_26] at hw
    refine lv_iload (pc := 26) hx hb dX9_told_26 (lv_at hl 3 rfl) ?_
    refine lv_aload_n (pc := 28) hx hb dX9_told_28 rfl (lv_at hl 0 rfl) ?_
    refine gf_717 (pc := 29) C hP h0 dX9_told_29 ?_
    refine lv_iload_n (pc := 32) hx hb dX9_told_32 rfl (lv_at hl 1 rfl) ?_
    refine r_ialdK (pc := 33) (n := 6) (k := x2.toNatClampNeg) C hP (cl_29_1 hC h0) (fun _ _ _ _ => rfl) hw.1 rfl dX9_told_33 ?_
    replace hw := hw.2
    refine lv_icmp_ge (pc := 34) (tgt := 100) hx hb dX9_told_34 (by decide) (fun h => ?_) (fun h => ?_)
    · replace hw := if_t h hw
      refine lv_iload_n (pc := 100) hx hb dX9_told_100 rfl (lv_at hl 2 rfl) ?_
      exact r_iret (pc := 101) C hP hS hw dX9_told_101
    · replace hw := if_f h hw
      refine lv_iconst (pc := 37) (v := (1 : Int32)) hx hb dX9_told_37 (by decide) ?_
      refine lv_istore (pc := 38) (lv' := [(5, .int (1 : Int32)), (0, .ref (ad (29, 0, 0, 0))), (2, .int x2), (3, .int x3), (4, .int x4)]) hx hb dX9_told_38 hl (by decide) rfl (fun ls hl => ?_)
      refine lv_iconst (pc := 40) (v := (0 : Int32)) hx hb dX9_told_40 (by decide) ?_
      refine lv_istore (pc := 41) (lv' := [(6, .int (0 : Int32)), (5, .int (1 : Int32)), (0, .ref (ad (29, 0, 0, 0))), (2, .int x2), (3, .int x3), (4, .int x4)]) hx hb dX9_told_41 hl (by decide) rfl (fun ls hl => ?_)
      obtain ⟨n0, hw⟩ := hw
      exact j_X9_told_43 C hC h0 ih n0 x2 x3 x4 (1 : Int32) (0 : Int32) M _ _ _ hw hP hS (lv_sub hl [2, 3, 4, 5, 1, 0] rfl)
set_option maxHeartbeats 4000000 in
set_option maxRecDepth 100000 in
theorem j_X9_told_0 {a1 : Int32} (C : cx p s m args meth c cX9_told 7 (some .int) RX9 G) (hC : clo I) (h0 : I (29, 0, 0, 0)) {Q : Int32 → Mem → Prop} : ∀ (M : Mem) (H : Heap) (locs : List Loc) (ls : Array Slot), w_X9_told a1 Q M → wd G I ad M H → va_S (fA I ad) s.heap H locs → lv_has ls 7 [(0, .ref (ad (29, 0, 0, 0))), (1, .int a1)] → W p l e rm_X9_told s m args below meth c H locs 0 0 (MQ below (qI G I ad Q) args s 0 0 (fA I ad)) (F0 m 0 ls []) := by
  have hx := C.1
  have hb := C.2.1
  have hown := C.2.2.2.1
  have hts := C.2.2.2.2.1
  intro M H locs ls hw hP hS hl
  unfold w_X9_told at hw
  refine lv_iload_n (pc := 0) hx hb dX9_told_0 rfl (lv_at hl 1 rfl) ?_
  refine lv_bipush (pc := 1) (v := (20 : Int32)) hx hb dX9_told_1 (by decide) ?_
  refine lv_icmp_lt (pc := 3) (tgt := 102) hx hb dX9_told_3 (by decide) (fun h => ?_) (fun h => ?_)
  · replace hw := if_t h hw
    refine lv_iload_n (pc := 102) hx hb dX9_told_102 rfl (lv_at hl 1 rfl) ?_
    refine lv_bipush (pc := 103) (v := (10 : Int32)) hx hb dX9_told_103 (by decide) ?_
    refine lv_icmp_lt (pc := 105) (tgt := 133) hx hb dX9_told_105 (by decide) (fun h => ?_) (fun h => ?_)
    · replace hw := if_t h hw
      refine lv_iconst (pc := 133) (v := (0 : Int32)) hx hb dX9_told_133 (by decide) ?_
      refine lv_istore_n (pc := 134) (lv' := [(2, .int (0 : Int32)), (0, .ref (ad (29, 0, 0, 0))), (1, .int a1)]) hx hb dX9_told_134 rfl hl (by decide) rfl (fun ls hl => ?_)
      refine lv_iconst (pc := 135) (v := (0 : Int32)) hx hb dX9_told_135 (by decide) ?_
      refine lv_istore_n (pc := 136) (lv' := [(3, .int (0 : Int32)), (2, .int (0 : Int32)), (0, .ref (ad (29, 0, 0, 0))), (1, .int a1)]) hx hb dX9_told_136 rfl hl (by decide) rfl (fun ls hl => ?_)
      obtain ⟨n0, hw⟩ := hw
      exact j_X9_told_137 C hC h0 n0 (0 : Int32) (0 : Int32) M _ _ _ hw hP hS (lv_sub hl [2, 3, 1, 0] rfl)
    · replace hw := if_f h hw
      refine lv_iload_n (pc := 108) hx hb dX9_told_108 rfl (lv_at hl 1 rfl) ?_
      refine lv_bipush (pc := 109) (v := (10 : Int32)) hx hb dX9_told_109 (by decide) ?_
      refine lv_isub (pc := 111) hx hb dX9_told_111 ?_
      refine r_cSI (pc := 112) (rest := []) (As := [.int (a1 - (10 : Int32))]) C hl.1 hP hS (k_X9_isBlock l G hC  hw) mw_776 mw_777 mw_65 mw_778 ⟨rfl, rfl⟩ hd_X9_isBlock rfl rfl ⟨Nat.le_of_ble_eq_true rfl, Nat.le_of_ble_eq_true rfl⟩ (Nat.le_of_ble_eq_true rfl) ⟨Nat.zero_le _, Nat.zero_le _⟩ dX9_told_112 (fun r112 M112 H locs hw hP hS => ?_)
      refine lv_if_eq (pc := 115) (tgt := 130) hx hb dX9_told_115 (by decide) (fun h => ?_) (fun h => ?_)
      · replace hw := if_t h hw
        refine lv_bipush (pc := 130) (v := (-2 : Int32)) hx hb dX9_told_130 (by decide) ?_
        exact r_iret (pc := 132) C hP hS hw dX9_told_132
      · replace hw := if_f h hw
        refine lv_aload_n (pc := 118) hx hb dX9_told_118 rfl (lv_at hl 0 rfl) ?_
        refine gf_717 (pc := 119) C hP h0 dX9_told_119 ?_
        refine lv_iload_n (pc := 122) hx hb dX9_told_122 rfl (lv_at hl 1 rfl) ?_
        refine lv_bipush (pc := 123) (v := (10 : Int32)) hx hb dX9_told_123 (by decide) ?_
        refine lv_isub (pc := 125) hx hb dX9_told_125 ?_
        refine r_ialdK (pc := 126) (n := 6) (k := (a1 - (10 : Int32)).toNatClampNeg) C hP (cl_29_1 hC h0) (fun _ _ _ _ => rfl) hw.1 rfl dX9_told_126 ?_
        replace hw := hw.2
        refine lv_goto (pc := 127) (tgt := 132) hx hb dX9_told_127 (by decide) ?_
        exact r_iret (pc := 132) C hP hS hw dX9_told_132
  · replace hw := if_f h hw
    refine lv_iload_n (pc := 6) hx hb dX9_told_6 rfl (lv_at hl 1 rfl) ?_
    refine lv_bipush (pc := 7) (v := (20 : Int32)) hx hb dX9_told_7 (by decide) ?_
    refine lv_isub (pc := 9) hx hb dX9_told_9 ?_
    refine lv_topi (fun x2_10 ex2_10 => ?_)
    replace hw := hw x2_10 ex2_10
    refine lv_istore_n (pc := 10) (lv' := [(2, .int x2_10), (0, .ref (ad (29, 0, 0, 0))), (1, .int a1)]) hx hb dX9_told_10 rfl hl (by decide) rfl (fun ls hl => ?_)
    refine lv_iload_n (pc := 11) hx hb dX9_told_11 rfl (lv_at hl 0 rfl) ?_
    refine r_cSI (pc := 12) (rest := []) (As := [.int x2_10]) C hl.1 hP hS (k_X9_isBlock l G hC  hw) mw_776 mw_777 mw_65 mw_778 ⟨rfl, rfl⟩ hd_X9_isBlock rfl rfl ⟨Nat.le_of_ble_eq_true rfl, Nat.le_of_ble_eq_true rfl⟩ (Nat.le_of_ble_eq_true rfl) ⟨Nat.zero_le _, Nat.zero_le _⟩ dX9_told_12 (fun r12 M12 H locs hw hP hS => ?_)
    refine lv_if_ne (pc := 15) (tgt := 21) hx hb dX9_told_15 (by decide) (fun h => ?_) (fun h => ?_)
    · replace hw := if_f h hw
      refine lv_iconst (pc := 21) (v := (0 : Int32)) hx hb dX9_told_21 (by decide) ?_
      refine lv_istore_n (pc := 22) (lv' := [(3, .int (0 : Int32)), (2, .int x2_10), (0, .ref (ad (29, 0, 0, 0))), (1, .int a1)]) hx hb dX9_told_22 rfl hl (by decide) rfl (fun ls hl => ?_)
      refine lv_iconst (pc := 23) (v := (0 : Int32)) hx hb dX9_told_23 (by decide) ?_
      refine lv_istore (pc := 24) (lv' := [(4, .int (0 : Int32)), (3, .int (0 : Int32)), (2, .int x2_10), (0, .ref (ad (29, 0, 0, 0))), (1, .int a1)]) hx hb dX9_told_24 hl (by decide) rfl (fun ls hl => ?_)
      obtain ⟨n0, hw⟩ := hw
      exact j_X9_told_26 C hC h0 n0 x2_10 (0 : Int32) (0 : Int32) M12 _ _ _ hw hP hS (lv_sub hl [3, 2, 1, 0] rfl)
    · replace hw := if_t h hw
      refine lv_bipush (pc := 18) (v := (-2 : Int32)) hx hb dX9_told_18 (by decide) ?_
      exact r_iret (pc := 20) C hP hS hw dX9_told_20
end
theorem k_X9_told (l : Launch) (G : GG) {I : ix → Prop} {ad : ix → Nat} (hC : clo I) {a1 : Int32} (h0 : I (29, 0, 0, 0)) {Q : Int32 → Mem → Prop} {M : Mem} (hw : w_X9_told a1 Q M) : Met l yX9_told (wW yX9_told cX9_told 7 (some .int)) rm_X9_told (va_Pc [.ref (ad (29, 0, 0, 0)), .int a1] (fun U => wd G I ad M U.heap ∧ wK G U)) (qI G I ad Q) 0 0 (fA I ad) := met_of (by decide +kernel) (Nat.le_of_ble_eq_true rfl) (fun p e s m below meth c C hP hS ls hl => j_X9_told_0 C hC h0 _ _ _ _ hw hP hS hl)
