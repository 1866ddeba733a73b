abbrev rm_X8_restore : Room := { frames := 4, cells := 0, slots := 0, locals := 91 }
theorem hd_X8_restore : yX8_restore.cls ≠ "java/lang/invoke/MethodHandle" ∧ yX8_restore.cls ≠ "java/lang/invoke/VarHandle" ∧ (parseMethodDescriptor yX8_restore.desc).map (fun d => d.parameters.length) = some 1 := ⟨by decide +kernel, by decide +kernel, by decide +kernel⟩
def w_X8_restore (a1 : Int32) (Q : Int32 → Mem → Prop) (M : Mem) : Prop := (w_X8_isImage a1  (fun (r1 : Int32) (M1 : Mem) => (if r1 = 0 then (Q (-2 : Int32) M1) else (vp_in a1 2 ∧ (if M1.1 (10, 0, 0, 0) a1.toNatClampNeg = 0 then (Q (-3 : Int32) M1) else (vp_in a1 2 ∧ ((¬ M.1 (10, 0, 0, 0) a1.toNatClampNeg = 0) ∧ (¬ M1.1 (10, 0, 0, 0) a1.toNatClampNeg = 0) ∧ (w_X5_copyFrom 0 (a1.toNatClampNeg + 1)  (fun (M32 : Mem) => (Q (1 : Int32) M32)) M1))))))) M)
section
variable {p : Program} {l : Launch} {e : Env} {s : State} {m : MethodId} {args : Array Value} {below : List Frame} {meth : Method} {c : Code} 
variable  {G : GG} {I : ix → Prop} {ad : ix → Nat}
set_option maxHeartbeats 4000000 in
set_option maxRecDepth 100000 in
theorem j_X8_restore_0 {a1 : Int32} (C : cx p s m args meth c cX8_restore 2 (some .int) RX8 G) (hC : clo I) (h0 : I (0, 0, 0, 0)) {Q : Int32 → Mem → Prop} : ∀ (M : Mem) (H : Heap) (locs : List Loc) (ls : Array Slot), w_X8_restore a1 Q M → wd G I ad M H → va_S (fA I ad) s.heap H locs → lv_has ls 2 [(0, .ref (ad (0, 0, 0, 0))), (1, .int a1)] → (∀ k, k < 2 → ¬ M.1 (10, 0, 0, 0) k = 0 → I (1, k + 1, 0, 0)) → W p l e rm_X8_restore s m args below meth c H locs 0 0 (MQ below (qI G I ad Q) args s 0 0 (fA I ad)) (F0 m 0 ls []) := by
  have hx := C.1
  have hb := C.2.1
  have hown := C.2.2.2.1
  have hts := C.2.2.2.2.1
  intro M H locs ls hw hP hS hl hImg
  unfold w_X8_restore at hw
  refine lv_iload_n (pc := 0) hx hb dX8_restore_0 rfl (lv_at hl 1 rfl) ?_
  refine r_cSI (pc := 1) (rest := []) (As := [.int a1]) C hl.1 hP hS (k_X8_isImage l G hC  hw) mw_678 mw_679 mw_56 mw_680 ⟨rfl, rfl⟩ hd_X8_isImage rfl rfl ⟨Nat.le_of_ble_eq_true rfl, Nat.le_of_ble_eq_true rfl⟩ (Nat.le_of_ble_eq_true rfl) ⟨Nat.zero_le _, Nat.zero_le _⟩ dX8_restore_1 (fun r1 M1 H locs hw hP hS => ?_)
  refine lv_if_ne (pc := 4) (tgt := 10) hx hb dX8_restore_4 (by decide) (fun h => ?_) (fun h => ?_)
  · replace hw := if_f h hw
    refine lv_aload_n (pc := 10) hx hb dX8_restore_10 rfl (lv_at hl 0 rfl) ?_
    refine gf_295 (pc := 11) C hP h0 dX8_restore_11 ?_
    refine lv_iload_n (pc := 14) hx hb dX8_restore_14 rfl (lv_at hl 1 rfl) ?_
    refine r_aald10 (pc := 15) C hP (cl_0_1 hC h0) hw.1 dX8_restore_15 ?_
    replace hw := hw.2
    by_cases h10 : M1.1 (10, 0, 0, 0) a1.toNatClampNeg = 0
    · replace hw := if_t h10 hw
      rw [if_pos h10]
      refine lv_ifnonnullN (pc := 16) hx hb dX8_restore_16 ?_
      refine lv_bipush (pc := 19) (v := (-3 : Int32)) hx hb dX8_restore_19 (by decide) ?_
      exact r_iret (pc := 21) C hP hS hw dX8_restore_21
    · replace hw := if_f h10 hw
      rw [if_neg h10]
      refine lv_ifnonnull (pc := 16) (tgt := 22) hx hb dX8_restore_16 (by decide) ?_
      refine lv_aload_n (pc := 22) hx hb dX8_restore_22 rfl (lv_at hl 0 rfl) ?_
      refine gf_294 (pc := 23) C hP h0 dX8_restore_23 ?_
      refine lv_aload_n (pc := 26) hx hb dX8_restore_26 rfl (lv_at hl 0 rfl) ?_
      refine gf_295 (pc := 27) C hP h0 dX8_restore_27 ?_
      refine lv_iload_n (pc := 30) hx hb dX8_restore_30 rfl (lv_at hl 1 rfl) ?_
      refine r_aald10 (pc := 31) C hP (cl_0_1 hC h0) hw.1 dX8_restore_31 ?_
      rw [if_neg hw.2.2.1]
      have h131 := hImg _ (in_lt hw.1) hw.2.1
      replace hw := hw.2.2.2
      show W p l e rm_X8_restore s m args below meth c _ _ 0 0 _ (F0 m 32 _ (.ref (ad (1, a1.toNatClampNeg + 1, 0, 0)) :: _))
      refine r_cVV (pc := 32) (rest := []) (As := [.ref (ad (1, (a1.toNatClampNeg + 1), 0, 0))]) C hl.1 hP hS (k_X5_copyFrom l G hC (cl_0_0 hC h0) h131 hw) (cl_0_0 hC h0) rfl rfl mw_681 mw_682 mw_683 mw_57 mw_684 ⟨rfl, rfl⟩ hd_X5_copyFrom rfl rfl ⟨Nat.le_of_ble_eq_true rfl, Nat.le_of_ble_eq_true rfl⟩ (Nat.le_of_ble_eq_true rfl) ⟨Nat.zero_le _, Nat.zero_le _⟩ dX8_restore_32 (fun M32 H locs hw hP hS => ?_)
      refine lv_iconst (pc := 35) (v := (1 : Int32)) hx hb dX8_restore_35 (by decide) ?_
      exact r_iret (pc := 36) C hP hS hw dX8_restore_36
  · replace hw := if_t h hw
    refine lv_bipush (pc := 7) (v := (-2 : Int32)) hx hb dX8_restore_7 (by decide) ?_
    exact r_iret (pc := 9) C hP hS hw dX8_restore_9
end
theorem k_X8_restore (l : Launch) (G : GG) {I : ix → Prop} {ad : ix → Nat} (hC : clo I) {a1 : Int32} (h0 : I (0, 0, 0, 0)) {Q : Int32 → Mem → Prop} {M : Mem} (hImg : (∀ k, k < 2 → ¬ M.1 (10, 0, 0, 0) k = 0 → I (1, k + 1, 0, 0))) (hw : w_X8_restore a1 Q M) : Met l yX8_restore (wW yX8_restore cX8_restore 2 (some .int)) rm_X8_restore (va_Pc [.ref (ad (0, 0, 0, 0)), .int a1] (fun U => wd G I ad M U.heap ∧ wK G U)) (qI G I ad Q) 0 0 (fA I ad) := met_of (by decide +kernel) (Nat.le_of_ble_eq_true rfl) (fun p e s m below meth c C hP hS ls hl => j_X8_restore_0 C hC h0 _ _ _ _ hw hP hS hl hImg)
