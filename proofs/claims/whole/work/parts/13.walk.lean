section
variable {p : Program} {l : Launch} {e : Env} {s : State} {m : MethodId} {args : Array Value} {below : List Frame} {meth : Method} {c : Code} 
variable  {G : GG} {I : ix → Prop} {ad : ix → Nat}
set_option maxHeartbeats 4000000 in
set_option maxRecDepth 100000 in
theorem j_X9_placeOf_2 {a1 : Int32} {a2 : Int32} (C : cx p s m args meth c cX9_placeOf 4 (some .int) RX9 G) (hC : clo I) (h0 : I (29, 0, 0, 0)) {Q : Int32 → Mem → Prop} : ∀ (n : Nat), ∀ (x3 : Int32) (M : Mem) (H : Heap) (locs : List Loc) (ls : Array Slot), w_X9_placeOf_2 a1 a2 Q n x3 M → wd G I ad M H → va_S (fA I ad) s.heap H locs → lv_has ls 4 [(0, .ref (ad (29, 0, 0, 0))), (1, .int a1), (2, .int a2), (3, .int x3)] → W p l e rm_X9_placeOf s m args below meth c H locs 0 0 (MQ below (qI G I ad Q) args s 0 0 (fA I ad)) (F0 m 2 ls []) := by
  have hx := C.1
  have hb := C.2.1
  have hown := C.2.2.2.1
  have hts := C.2.2.2.2.1
  intro n
  induction n with
  | zero =>
    intro x3 M H locs ls hw hP hS hl
    rw [w_X9_placeOf_2] at hw
    exact hw.elim
  | succ n ih =>
    intro x3 M H locs ls hw hP hS hl
    rw [w_X9_placeOf_2] at hw
    refine lv_iload_n (pc := 2) hx hb dX9_placeOf_2 rfl (lv_at hl 3 rfl) ?_
    refine lv_aload_n (pc := 3) hx hb dX9_placeOf_3 rfl (lv_at hl 0 rfl) ?_
    refine gf_718 (pc := 4) C hP h0 dX9_placeOf_4 ?_
    refine lv_bipush (pc := 7) (v := (12 : Int32)) hx hb dX9_placeOf_7 (by decide) ?_
    refine lv_iload_n (pc := 9) hx hb dX9_placeOf_9 rfl (lv_at hl 1 rfl) ?_
    refine lv_imul (pc := 10) hx hb dX9_placeOf_10 ?_
    refine lv_iconst (pc := 11) (v := (3 : Int32)) hx hb dX9_placeOf_11 (by decide) ?_
    refine lv_iadd (pc := 12) hx hb dX9_placeOf_12 ?_
    refine r_ialdK (pc := 13) (n := 288) (k := (((12 : Int32) * a1) + (3 : Int32)).toNatClampNeg) C hP (cl_29_2 hC h0) (fun _ _ _ _ => rfl) hw.1 rfl dX9_placeOf_13 ?_
    replace hw := hw.2
    refine lv_icmp_ge (pc := 14) (tgt := 42) hx hb dX9_placeOf_14 (by decide) (fun h => ?_) (fun h => ?_)
    · replace hw := if_t h hw
      refine lv_ldc (pc := 42) (own := RX9) (v := (-2000000 : Int32)) hx hb hown (hts _ mw_715) dX9_placeOf_42 ?_
      exact r_iret (pc := 44) C hP hS hw dX9_placeOf_44
    · replace hw := if_f h hw
      refine lv_aload_n (pc := 17) hx hb dX9_placeOf_17 rfl (lv_at hl 0 rfl) ?_
      refine gf_718 (pc := 18) C hP h0 dX9_placeOf_18 ?_
      refine lv_bipush (pc := 21) (v := (12 : Int32)) hx hb dX9_placeOf_21 (by decide) ?_
      refine lv_iload_n (pc := 23) hx hb dX9_placeOf_23 rfl (lv_at hl 1 rfl) ?_
      refine lv_imul (pc := 24) hx hb dX9_placeOf_24 ?_
      refine lv_iconst (pc := 25) (v := (4 : Int32)) hx hb dX9_placeOf_25 (by decide) ?_
      refine lv_iadd (pc := 26) hx hb dX9_placeOf_26 ?_
      refine lv_iload_n (pc := 27) hx hb dX9_placeOf_27 rfl (lv_at hl 3 rfl) ?_
      refine lv_iadd (pc := 28) hx hb dX9_placeOf_28 ?_
      refine r_ialdK (pc := 29) (n := 288) (k := ((((12 : Int32) * a1) + (4 : Int32)) + x3).toNatClampNeg) C hP (cl_29_2 hC h0) (fun _ _ _ _ => rfl) hw.1 rfl dX9_placeOf_29 ?_
      replace hw := hw.2
      refine lv_iload_n (pc := 30) hx hb dX9_placeOf_30 rfl (lv_at hl 2 rfl) ?_
      refine lv_icmp_ne (pc := 31) (tgt := 36) hx hb dX9_placeOf_31 (by decide) (fun h => ?_) (fun h => ?_)
      · replace hw := if_f h hw
        refine lv_iinc (pc := 36) (v := x3 + 1) (lv' := [(3, .int (x3 + 1)), (0, .ref (ad (29, 0, 0, 0))), (1, .int a1), (2, .int a2)]) hx hb dX9_placeOf_36 hl (k := 3) rfl rfl (by decide) rfl (fun ls hl => ?_)
        refine lv_goto (pc := 39) (tgt := 2) hx hb dX9_placeOf_39 (by decide) ?_
        exact ih (x3 + 1) M _ _ _ hw hP hS (lv_sub hl [1, 2, 3, 0] rfl)
      · replace hw := if_t h hw
        refine lv_iload_n (pc := 34) hx hb dX9_placeOf_34 rfl (lv_at hl 3 rfl) ?_
        exact r_iret (pc := 35) C hP hS hw dX9_placeOf_35
set_option maxHeartbeats 4000000 in
set_option maxRecDepth 100000 in
theorem j_X9_placeOf_0 {a1 : Int32} {a2 : Int32} (C : cx p s m args meth c cX9_placeOf 4 (some .int) RX9 G) (hC : clo I) (h0 : I (29, 0, 0, 0)) {Q : Int32 → Mem → Prop} : ∀ (M : Mem) (H : Heap) (locs : List Loc) (ls : Array Slot), w_X9_placeOf a1 a2 Q M → wd G I ad M H → va_S (fA I ad) s.heap H locs → lv_has ls 4 [(0, .ref (ad (29, 0, 0, 0))), (1, .int a1), (2, .int a2)] → W p l e rm_X9_placeOf s m args below meth c H locs 0 0 (MQ below (qI G I ad Q) args s 0 0 (fA I ad)) (F0 m 0 ls []) := by
  have hx := C.1
  have hb := C.2.1
  have hown := C.2.2.2.1
  have hts := C.2.2.2.2.1
  intro M H locs ls hw hP hS hl
  unfold w_X9_placeOf at hw
  refine lv_iconst (pc := 0) (v := (0 : Int32)) hx hb dX9_placeOf_0 (by decide) ?_
  refine lv_istore_n (pc := 1) (lv' := [(3, .int (0 : Int32)), (0, .ref (ad (29, 0, 0, 0))), (1, .int a1), (2, .int a2)]) hx hb dX9_placeOf_1 rfl hl (by decide) rfl (fun ls hl => ?_)
  obtain ⟨n0, hw⟩ := hw
  exact j_X9_placeOf_2 C hC h0 n0 (0 : Int32) M _ _ _ hw hP hS (lv_sub hl [1, 2, 3, 0] rfl)
end
theorem k_X9_placeOf (l : Launch) (G : GG) {I : ix → Prop} {ad : ix → Nat} (hC : clo I) {a1 : Int32} {a2 : Int32} (h0 : I (29, 0, 0, 0)) {Q : Int32 → Mem → Prop} {M : Mem} (hw : w_X9_placeOf a1 a2 Q M) : Met l yX9_placeOf (wW yX9_placeOf cX9_placeOf 4 (some .int)) rm_X9_placeOf (va_Pc [.ref (ad (29, 0, 0, 0)), .int a1, .int a2] (fun U => wd G I ad M U.heap ∧ wK G U)) (qI G I ad Q) 0 0 (fA I ad) := met_of (by decide +kernel) (Nat.le_of_ble_eq_true rfl) (fun p e s m below meth c C hP hS ls hl => j_X9_placeOf_0 C hC h0 _ _ _ _ hw hP hS hl)
section
variable {p : Program} {l : Launch} {e : Env} {s : State} {m : MethodId} {args : Array Value} {below : List Frame} {meth : Method} {c : Code} 
variable  {G : GG} {I : ix → Prop} {ad : ix → Nat}
set_option maxHeartbeats 4000000 in
set_option maxRecDepth 100000 in
theorem j_X9_come_106 {a1 : Int32} {a2 : Int32} (C : cx p s m args meth c cX9_come 5 none RX9 G) (hC : clo I) (h0 : I (29, 0, 0, 0)) {Q : Mem → Prop} : ∀ (x3 : Int32) (t0 : Int32) (t1 : Int32) (M : Mem) (H : Heap) (locs : List Loc) (ls : Array Slot), w_X9_come_106 a1 a2 Q x3 t0 t1 M → wd G I ad M H → va_S (fA I ad) s.heap H locs → lv_has ls 5 [(0, .ref (ad (29, 0, 0, 0))), (1, .int a1), (2, .int a2), (3, .int x3)] → I (32, 0, 0, 0) → W p l e rm_X9_come s m args below meth c H locs 0 0 (MQ below (qV G I ad Q) args s 0 0 (fA I ad)) (F0 m 106 ls [.int t0, .int t1, .ref (ad (32, 0, 0, 0))]) := by
  have hx := C.1
  have hb := C.2.1
  have hown := C.2.2.2.1
  have hts := C.2.2.2.2.1
  intro x3 t0 t1 M H locs ls hw hP hS hl ht2
  unfold w_X9_come_106 at hw
  refine r_iastK (pc := 106) (n := 288) (k := t1.toNatClampNeg) C hP hS ht2 (fun _ _ _ _ => rfl) hw.1 rfl dX9_come_106 (fun H locs hP hS => ?_)
  replace hw := hw.2
  refine lv_aload_n (pc := 107) hx hb dX9_come_107 rfl (lv_at hl 0 rfl) ?_
  refine gf_718 (pc := 108) C hP h0 dX9_come_108 ?_
  refine lv_iload_n (pc := 111) hx hb dX9_come_111 rfl (lv_at hl 3 rfl) ?_
  refine lv_iconst (pc := 112) (v := (3 : Int32)) hx hb dX9_come_112 (by decide) ?_
  refine lv_iadd (pc := 113) hx hb dX9_come_113 ?_
  refine r_ialdK (pc := 114) (n := 288) (k := (x3 + (3 : Int32)).toNatClampNeg) C hP (cl_29_2 hC h0) (fun _ _ _ _ => rfl) hw.1 rfl dX9_come_114 ?_
  replace hw := hw.2
  refine lv_if_ge (pc := 115) (tgt := 119) hx hb dX9_come_115 (by decide) (fun h => ?_) (fun h => ?_)
  · replace hw := if_t h hw
    refine lv_aload_n (pc := 119) hx hb dX9_come_119 rfl (lv_at hl 0 rfl) ?_
    refine lv_iload_n (pc := 120) hx hb dX9_come_120 rfl (lv_at hl 1 rfl) ?_
    refine lv_iload_n (pc := 121) hx hb dX9_come_121 rfl (lv_at hl 2 rfl) ?_
    refine r_cVI (pc := 122) (rest := []) (As := [.int a1, .int a2]) C hl.1 hP hS (k_X9_placeOf l G hC h0 hw) h0 rfl rfl mw_786 mw_788 mw_36 mw_65 mw_789 ⟨rfl, rfl⟩ hd_X9_placeOf rfl rfl ⟨Nat.le_of_ble_eq_true rfl, Nat.le_of_ble_eq_true rfl⟩ (Nat.le_of_ble_eq_true rfl) ⟨Nat.zero_le _, Nat.zero_le _⟩ dX9_come_122 (fun r122 M122 H locs hw hP hS => ?_)
    refine lv_istore (pc := 125) (lv' := [(4, .int r122), (0, .ref (ad (29, 0, 0, 0))), (1, .int a1), (2, .int a2), (3, .int x3)]) hx hb dX9_come_125 hl (by decide) rfl (fun ls hl => ?_)
    refine lv_iload (pc := 127) hx hb dX9_come_127 (lv_at hl 0 rfl) ?_
    refine lv_if_lt (pc := 129) (tgt := 151) hx hb dX9_come_129 (by decide) (fun h => ?_) (fun h => ?_)
    · replace hw := if_t h hw
      refine lv_aload_n (pc := 151) hx hb dX9_come_151 rfl (lv_at hl 1 rfl) ?_
      refine gf_718 (pc := 152) C hP h0 dX9_come_152 ?_
      refine lv_iload_n (pc := 155) hx hb dX9_come_155 rfl (lv_at hl 4 rfl) ?_
      refine lv_iconst (pc := 156) (v := (3 : Int32)) hx hb dX9_come_156 (by decide) ?_
      refine lv_iadd (pc := 157) hx hb dX9_come_157 ?_
      refine r_ialdK (pc := 158) (n := 288) (k := (x3 + (3 : Int32)).toNatClampNeg) C hP (cl_29_2 hC h0) (fun _ _ _ _ => rfl) hw.1 rfl dX9_come_158 ?_
      replace hw := hw.2
      refine lv_iconst (pc := 159) (v := (4 : Int32)) hx hb dX9_come_159 (by decide) ?_
      refine lv_icmp_ne (pc := 160) (tgt := 175) hx hb dX9_come_160 (by decide) (fun h => ?_) (fun h => ?_)
      · replace hw := if_f h hw
        refine lv_aload_n (pc := 175) hx hb dX9_come_175 rfl (lv_at hl 1 rfl) ?_
        refine gf_718 (pc := 176) C hP h0 dX9_come_176 ?_
        refine lv_iload_n (pc := 179) hx hb dX9_come_179 rfl (lv_at hl 4 rfl) ?_
        refine lv_iconst (pc := 180) (v := (4 : Int32)) hx hb dX9_come_180 (by decide) ?_
        refine lv_iadd (pc := 181) hx hb dX9_come_181 ?_
        refine lv_aload_n (pc := 182) hx hb dX9_come_182 rfl (lv_at hl 1 rfl) ?_
        refine gf_718 (pc := 183) C hP h0 dX9_come_183 ?_
        refine lv_iload_n (pc := 186) hx hb dX9_come_186 rfl (lv_at hl 4 rfl) ?_
        refine lv_iconst (pc := 187) (v := (3 : Int32)) hx hb dX9_come_187 (by decide) ?_
        refine lv_iadd (pc := 188) hx hb dX9_come_188 ?_
        refine r_ialdK (pc := 189) (n := 288) (k := (x3 + (3 : Int32)).toNatClampNeg) C hP (cl_29_2 hC h0) (fun _ _ _ _ => rfl) hw.1 rfl dX9_come_189 ?_
        replace hw := hw.2
        refine lv_iadd (pc := 190) hx hb dX9_come_190 ?_
        refine lv_iload_n (pc := 191) hx hb dX9_come_191 rfl (lv_at hl 3 rfl) ?_
        refine r_iastK (pc := 192) (n := 288) (k := ((x3 + (4 : Int32)) + (M122.1 (32, 0, 0, 0) ((x3 + (3 : Int32)).toNatClampNeg))).toNatClampNeg) C hP hS (cl_29_2 hC h0) (fun _ _ _ _ => rfl) hw.1 rfl dX9_come_192 (fun H locs hP hS => ?_)
        replace hw := hw.2
        refine lv_aload_n (pc := 193) hx hb dX9_come_193 rfl (lv_at hl 1 rfl) ?_
        refine gf_718 (pc := 194) C hP h0 dX9_come_194 ?_
        refine lv_iload_n (pc := 197) hx hb dX9_come_197 rfl (lv_at hl 4 rfl) ?_
        refine lv_bipush (pc := 198) (v := (8 : Int32)) hx hb dX9_come_198 (by decide) ?_
        refine lv_iadd (pc := 200) hx hb dX9_come_200 ?_
        refine lv_aload_n (pc := 201) hx hb dX9_come_201 rfl (lv_at hl 1 rfl) ?_
        refine gf_718 (pc := 202) C hP h0 dX9_come_202 ?_
        refine lv_iload_n (pc := 205) hx hb dX9_come_205 rfl (lv_at hl 4 rfl) ?_
        refine lv_iconst (pc := 206) (v := (3 : Int32)) hx hb dX9_come_206 (by decide) ?_
        refine lv_iadd (pc := 207) hx hb dX9_come_207 ?_
        refine r_ialdK (pc := 208) (n := 288) (k := (x3 + (3 : Int32)).toNatClampNeg) C hP (cl_29_2 hC h0) (fun _ _ _ _ => rfl) hw.1 rfl dX9_come_208 ?_
        replace hw := hw.2
        refine lv_iadd (pc := 209) hx hb dX9_come_209 ?_
        refine lv_iconst (pc := 210) (v := (1 : Int32)) hx hb dX9_come_210 (by decide) ?_
        refine r_iastK (pc := 211) (n := 288) (k := ((x3 + (8 : Int32)) + ((mu M122 (32, 0, 0, 0) (((x3 + (4 : Int32)) + (M122.1 (32, 0, 0, 0) ((x3 + (3 : Int32)).toNatClampNeg))).toNatClampNeg) a2).1 (32, 0, 0, 0) ((x3 + (3 : Int32)).toNatClampNeg))).toNatClampNeg) C hP hS (cl_29_2 hC h0) (fun _ _ _ _ => rfl) hw.1 rfl dX9_come_211 (fun H locs hP hS => ?_)
        replace hw := hw.2
        obtain ⟨M211, eM211⟩ : ∃ z : Mem, z = (mu (mu M122 (32, 0, 0, 0) (((x3 + (4 : Int32)) + (M122.1 (32, 0, 0, 0) ((x3 + (3 : Int32)).toNatClampNeg))).toNatClampNeg) a2) (32, 0, 0, 0) (((x3 + (8 : Int32)) + ((mu M122 (32, 0, 0, 0) (((x3 + (4 : Int32)) + (M122.1 (32, 0, 0, 0) ((x3 + (3 : Int32)).toNatClampNeg))).toNatClampNeg) a2).1 (32, 0, 0, 0) ((x3 + (3 : Int32)).toNatClampNeg))).toNatClampNeg) (1 : Int32)) := ⟨_, rfl⟩
        replace hP : wd G I ad M211 H := by rw [eM211]; exact hP
        replace hw := hw M211 eM211
        refine lv_aload_n (pc := 212) hx hb dX9_come_212 rfl (lv_at hl 1 rfl) ?_
        refine gf_718 (pc := 213) C hP h0 dX9_come_213 ?_
        refine lv_iload_n (pc := 216) hx hb dX9_come_216 rfl (lv_at hl 4 rfl) ?_
        refine lv_iconst (pc := 217) (v := (3 : Int32)) hx hb dX9_come_217 (by decide) ?_
        refine lv_iadd (pc := 218) hx hb dX9_come_218 ?_
        refine lv_dup2_11 (pc := 219) hx hb dX9_come_219 rfl rfl ?_
        refine r_ialdK (pc := 220) (n := 288) (k := (x3 + (3 : Int32)).toNatClampNeg) C hP (cl_29_2 hC h0) (fun _ _ _ _ => rfl) hw.1 rfl dX9_come_220 ?_
        replace hw := hw.2
        refine lv_iconst (pc := 221) (v := (1 : Int32)) hx hb dX9_come_221 (by decide) ?_
        refine lv_iadd (pc := 222) hx hb dX9_come_222 ?_
        refine r_iastK (pc := 223) (n := 288) (k := (x3 + (3 : Int32)).toNatClampNeg) C hP hS (cl_29_2 hC h0) (fun _ _ _ _ => rfl) hw.1 rfl dX9_come_223 (fun H locs hP hS => ?_)
        replace hw := hw.2
        exact r_vret (pc := 224) C hP hS hw dX9_come_224
      · replace hw := if_t h hw
        refine lv_aload_n (pc := 163) hx hb dX9_come_163 rfl (lv_at hl 1 rfl) ?_
        refine gf_718 (pc := 164) C hP h0 dX9_come_164 ?_
        refine lv_iload_n (pc := 167) hx hb dX9_come_167 rfl (lv_at hl 4 rfl) ?_
        refine lv_iconst (pc := 168) (v := (3 : Int32)) hx hb dX9_come_168 (by decide) ?_
        refine lv_iadd (pc := 169) hx hb dX9_come_169 ?_
        refine lv_iconst (pc := 170) (v := (-1 : Int32)) hx hb dX9_come_170 (by decide) ?_
        refine r_iastK (pc := 171) (n := 288) (k := (x3 + (3 : Int32)).toNatClampNeg) C hP hS (cl_29_2 hC h0) (fun _ _ _ _ => rfl) hw.1 rfl dX9_come_171 (fun H locs hP hS => ?_)
        replace hw := hw.2
        refine lv_goto (pc := 172) (tgt := 224) hx hb dX9_come_172 (by decide) ?_
        exact r_vret (pc := 224) C hP hS hw dX9_come_224
    · replace hw := if_f h hw
      refine lv_aload_n (pc := 132) hx hb dX9_come_132 rfl (lv_at hl 1 rfl) ?_
      refine gf_718 (pc := 133) C hP h0 dX9_come_133 ?_
      refine lv_iload_n (pc := 136) hx hb dX9_come_136 rfl (lv_at hl 4 rfl) ?_
      refine lv_bipush (pc := 137) (v := (8 : Int32)) hx hb dX9_come_137 (by decide) ?_
      refine lv_iadd (pc := 139) hx hb dX9_come_139 ?_
      refine lv_iload (pc := 140) hx hb dX9_come_140 (lv_at hl 0 rfl) ?_
      refine lv_iadd (pc := 142) hx hb dX9_come_142 ?_
      refine lv_dup2_11 (pc := 143) hx hb dX9_come_143 rfl rfl ?_
      refine r_ialdK (pc := 144) (n := 288) (k := ((x3 + (8 : Int32)) + r122).toNatClampNeg) C hP (cl_29_2 hC h0) (fun _ _ _ _ => rfl) hw.1 rfl dX9_come_144 ?_
      replace hw := hw.2
      refine lv_iconst (pc := 145) (v := (1 : Int32)) hx hb dX9_come_145 (by decide) ?_
      refine lv_iadd (pc := 146) hx hb dX9_come_146 ?_
      refine r_iastK (pc := 147) (n := 288) (k := ((x3 + (8 : Int32)) + r122).toNatClampNeg) C hP hS (cl_29_2 hC h0) (fun _ _ _ _ => rfl) hw.1 rfl dX9_come_147 (fun H locs hP hS => ?_)
      replace hw := hw.2
      obtain ⟨M147, eM147⟩ : ∃ z : Mem, z = (mu M122 (32, 0, 0, 0) (((x3 + (8 : Int32)) + r122).toNatClampNeg) ((M122.1 (32, 0, 0, 0) (((x3 + (8 : Int32)) + r122).toNatClampNeg)) + (1 : Int32))) := ⟨_, rfl⟩
      replace hP : wd G I ad M147 H := by rw [eM147]; exact hP
      replace hw := hw M147 eM147
      refine lv_goto (pc := 148) (tgt := 224) hx hb dX9_come_148 (by decide) ?_
      exact r_vret (pc := 224) C hP hS hw dX9_come_224
  · replace hw := if_f h hw
    exact r_vret (pc := 118) C hP hS hw dX9_come_118
set_option maxHeartbeats 4000000 in
set_option maxRecDepth 100000 in
theorem j_X9_come_94 {a1 : Int32} {a2 : Int32} (C : cx p s m args meth c cX9_come 5 none RX9 G) (hC : clo I) (h0 : I (29, 0, 0, 0)) {Q : Mem → Prop} : ∀ (x3 : Int32) (t0 : Int32) (M : Mem) (H : Heap) (locs : List Loc) (ls : Array Slot), w_X9_come_94 a1 a2 Q x3 t0 M → wd G I ad M H → va_S (fA I ad) s.heap H locs → lv_has ls 5 [(0, .ref (ad (29, 0, 0, 0))), (1, .int a1), (2, .int a2), (3, .int x3)] → I (32, 0, 0, 0) → W p l e rm_X9_come s m args below meth c H locs 0 0 (MQ below (qV G I ad Q) args s 0 0 (fA I ad)) (F0 m 94 ls [.int t0, .ref (ad (32, 0, 0, 0))]) := by
  have hx := C.1
  have hb := C.2.1
  have hown := C.2.2.2.1
  have hts := C.2.2.2.2.1
  intro x3 t0 M H locs ls hw hP hS hl ht1
  unfold w_X9_come_94 at hw
  refine lv_iload_n (pc := 94) hx hb dX9_come_94 rfl (lv_at hl 2 rfl) ?_
  refine lv_goto (pc := 95) (tgt := 106) hx hb dX9_come_95 (by decide) ?_
  exact j_X9_come_106 C hC h0 x3 a2 t0 M _ _ _ hw hP hS (lv_sub hl [0, 1, 2, 3] rfl) ht1
set_option maxHeartbeats 4000000 in
set_option maxRecDepth 100000 in
theorem j_X9_come_61 {a1 : Int32} {a2 : Int32} (C : cx p s m args meth c cX9_come 5 none RX9 G) (hC : clo I) (h0 : I (29, 0, 0, 0)) {Q : Mem → Prop} : ∀ (x3 : Int32) (t0 : Int32) (t1 : Int32) (M : Mem) (H : Heap) (locs : List Loc) (ls : Array Slot), w_X9_come_61 a1 a2 Q x3 t0 t1 M → wd G I ad M H → va_S (fA I ad) s.heap H locs → lv_has ls 5 [(0, .ref (ad (29, 0, 0, 0))), (1, .int a1), (2, .int a2), (3, .int x3)] → I (32, 0, 0, 0) → W p l e rm_X9_come s m args below meth c H locs 0 0 (MQ below (qV G I ad Q) args s 0 0 (fA I ad)) (F0 m 61 ls [.int t0, .int t1, .ref (ad (32, 0, 0, 0))]) := by
  have hx := C.1
  have hb := C.2.1
  have hown := C.2.2.2.1
  have hts := C.2.2.2.2.1
  intro x3 t0 t1 M H locs ls hw hP hS hl ht2
  unfold w_X9_come_61 at hw
  refine r_iastK (pc := 61) (n := 288) (k := t1.toNatClampNeg) C hP hS ht2 (fun _ _ _ _ => rfl) hw.1 rfl dX9_come_61 (fun H locs hP hS => ?_)
  replace hw := hw.2
  refine lv_aload_n (pc := 62) hx hb dX9_come_62 rfl (lv_at hl 0 rfl) ?_
  refine gf_718 (pc := 63) C hP h0 dX9_come_63 ?_
  refine lv_iload_n (pc := 66) hx hb dX9_come_66 rfl (lv_at hl 3 rfl) ?_
  refine lv_iconst (pc := 67) (v := (1 : Int32)) hx hb dX9_come_67 (by decide) ?_
  refine lv_iadd (pc := 68) hx hb dX9_come_68 ?_
  refine lv_aload_n (pc := 69) hx hb dX9_come_69 rfl (lv_at hl 0 rfl) ?_
  refine gf_718 (pc := 70) C hP h0 dX9_come_70 ?_
  refine lv_iload_n (pc := 73) hx hb dX9_come_73 rfl (lv_at hl 3 rfl) ?_
  refine lv_iconst (pc := 74) (v := (1 : Int32)) hx hb dX9_come_74 (by decide) ?_
  refine lv_iadd (pc := 75) hx hb dX9_come_75 ?_
  refine r_ialdK (pc := 76) (n := 288) (k := (x3 + (1 : Int32)).toNatClampNeg) C hP (cl_29_2 hC h0) (fun _ _ _ _ => rfl) hw.1 rfl dX9_come_76 ?_
  replace hw := hw.2
  refine lv_ldc (pc := 77) (own := RX9) (v := (-2000000 : Int32)) hx hb hown (hts _ mw_715) dX9_come_77 ?_
  refine lv_icmp_eq (pc := 79) (tgt := 94) hx hb dX9_come_79 (by decide) (fun h => ?_) (fun h => ?_)
  · replace hw := if_t h hw
    exact j_X9_come_94 C hC h0 x3 (x3 + (1 : Int32)) (mu M (32, 0, 0, 0) (t1.toNatClampNeg) t0) _ _ _ hw hP hS (lv_sub hl [0, 1, 2, 3] rfl) (cl_29_2 hC h0)
  · replace hw := if_f h hw
    refine lv_iload_n (pc := 82) hx hb dX9_come_82 rfl (lv_at hl 2 rfl) ?_
    refine lv_aload_n (pc := 83) hx hb dX9_come_83 rfl (lv_at hl 0 rfl) ?_
    refine gf_718 (pc := 84) C hP h0 dX9_come_84 ?_
    refine lv_iload_n (pc := 87) hx hb dX9_come_87 rfl (lv_at hl 3 rfl) ?_
    refine lv_iconst (pc := 88) (v := (1 : Int32)) hx hb dX9_come_88 (by decide) ?_
    refine lv_iadd (pc := 89) hx hb dX9_come_89 ?_
    refine r_ialdK (pc := 90) (n := 288) (k := (x3 + (1 : Int32)).toNatClampNeg) C hP (cl_29_2 hC h0) (fun _ _ _ _ => rfl) hw.1 rfl dX9_come_90 ?_
    replace hw := hw.2
    refine lv_icmp_le (pc := 91) (tgt := 98) hx hb dX9_come_91 (by decide) (fun h => ?_) (fun h => ?_)
    · replace hw := if_t h hw
      refine lv_aload_n (pc := 98) hx hb dX9_come_98 rfl (lv_at hl 0 rfl) ?_
      refine gf_718 (pc := 99) C hP h0 dX9_come_99 ?_
      refine lv_iload_n (pc := 102) hx hb dX9_come_102 rfl (lv_at hl 3 rfl) ?_
      refine lv_iconst (pc := 103) (v := (1 : Int32)) hx hb dX9_come_103 (by decide) ?_
      refine lv_iadd (pc := 104) hx hb dX9_come_104 ?_
      refine r_ialdK (pc := 105) (n := 288) (k := (x3 + (1 : Int32)).toNatClampNeg) C hP (cl_29_2 hC h0) (fun _ _ _ _ => rfl) hw.1 rfl dX9_come_105 ?_
      replace hw := hw.2
      exact j_X9_come_106 C hC h0 x3 ((mu M (32, 0, 0, 0) (t1.toNatClampNeg) t0).1 (32, 0, 0, 0) ((x3 + (1 : Int32)).toNatClampNeg)) (x3 + (1 : Int32)) (mu M (32, 0, 0, 0) (t1.toNatClampNeg) t0) _ _ _ hw hP hS (lv_sub hl [0, 1, 2, 3] rfl) (cl_29_2 hC h0)
    · replace hw := if_f h hw
      exact j_X9_come_94 C hC h0 x3 (x3 + (1 : Int32)) (mu M (32, 0, 0, 0) (t1.toNatClampNeg) t0) _ _ _ hw hP hS (lv_sub hl [0, 1, 2, 3] rfl) (cl_29_2 hC h0)
set_option maxHeartbeats 4000000 in
set_option maxRecDepth 100000 in
theorem j_X9_come_51 {a1 : Int32} {a2 : Int32} (C : cx p s m args meth c cX9_come 5 none RX9 G) (hC : clo I) (h0 : I (29, 0, 0, 0)) {Q : Mem → Prop} : ∀ (x3 : Int32) (t0 : Int32) (M : Mem) (H : Heap) (locs : List Loc) (ls : Array Slot), w_X9_come_51 a1 a2 Q x3 t0 M → wd G I ad M H → va_S (fA I ad) s.heap H locs → lv_has ls 5 [(0, .ref (ad (29, 0, 0, 0))), (1, .int a1), (2, .int a2), (3, .int x3)] → I (32, 0, 0, 0) → W p l e rm_X9_come s m args below meth c H locs 0 0 (MQ below (qV G I ad Q) args s 0 0 (fA I ad)) (F0 m 51 ls [.int t0, .ref (ad (32, 0, 0, 0))]) := by
  have hx := C.1
  have hb := C.2.1
  have hown := C.2.2.2.1
  have hts := C.2.2.2.2.1
  intro x3 t0 M H locs ls hw hP hS hl ht1
  unfold w_X9_come_51 at hw
  refine lv_iload_n (pc := 51) hx hb dX9_come_51 rfl (lv_at hl 2 rfl) ?_
  refine lv_goto (pc := 52) (tgt := 61) hx hb dX9_come_52 (by decide) ?_
  exact j_X9_come_61 C hC h0 x3 a2 t0 M _ _ _ hw hP hS (lv_sub hl [0, 1, 2, 3] rfl) ht1
set_option maxHeartbeats 4000000 in
set_option maxRecDepth 100000 in
theorem j_X9_come_0 {a1 : Int32} {a2 : Int32} (C : cx p s m args meth c cX9_come 5 none RX9 G) (hC : clo I) (h0 : I (29, 0, 0, 0)) {Q : Mem → Prop} : ∀ (M : Mem) (H : Heap) (locs : List Loc) (ls : Array Slot), w_X9_come a1 a2 Q M → wd G I ad M H → va_S (fA I ad) s.heap H locs → lv_has ls 5 [(0, .ref (ad (29, 0, 0, 0))), (1, .int a1), (2, .int a2)] → W p l e rm_X9_come s m args below meth c H locs 0 0 (MQ below (qV G I ad Q) args s 0 0 (fA I ad)) (F0 m 0 ls []) := by
  have hx := C.1
  have hb := C.2.1
  have hown := C.2.2.2.1
  have hts := C.2.2.2.2.1
  intro M H locs ls hw hP hS hl
  unfold w_X9_come at hw
  refine lv_bipush (pc := 0) (v := (12 : Int32)) hx hb dX9_come_0 (by decide) ?_
  refine lv_iload_n (pc := 2) hx hb dX9_come_2 rfl (lv_at hl 1 rfl) ?_
  refine lv_imul (pc := 3) hx hb dX9_come_3 ?_
  refine lv_topi (fun x3_4 ex3_4 => ?_)
  replace hw := hw x3_4 ex3_4
  refine lv_istore_n (pc := 4) (lv' := [(3, .int x3_4), (0, .ref (ad (29, 0, 0, 0))), (1, .int a1), (2, .int a2)]) hx hb dX9_come_4 rfl hl (by decide) rfl (fun ls hl => ?_)
  refine lv_iload_n (pc := 5) hx hb dX9_come_5 rfl (lv_at hl 3 rfl) ?_
  refine lv_sipush (pc := 6) (v := (1000 : Int32)) hx hb dX9_come_6 (by decide) ?_
  refine lv_icmp_ne (pc := 9) (tgt := 25) hx hb dX9_come_9 (by decide) (fun h => ?_) (fun h => ?_)
  · replace hw := if_f h hw
    refine lv_aload_n (pc := 25) hx hb dX9_come_25 rfl (lv_at hl 1 rfl) ?_
    refine gf_718 (pc := 26) C hP h0 dX9_come_26 ?_
    refine lv_iload_n (pc := 29) hx hb dX9_come_29 rfl (lv_at hl 0 rfl) ?_
    refine lv_aload_n (pc := 30) hx hb dX9_come_30 rfl (lv_at hl 1 rfl) ?_
    refine gf_718 (pc := 31) C hP h0 dX9_come_31 ?_
    refine lv_iload_n (pc := 34) hx hb dX9_come_34 rfl (lv_at hl 0 rfl) ?_
    refine r_ialdK (pc := 35) (n := 288) (k := x3_4.toNatClampNeg) C hP (cl_29_2 hC h0) (fun _ _ _ _ => rfl) hw.1 rfl dX9_come_35 ?_
    replace hw := hw.2
    refine lv_ldc (pc := 36) (own := RX9) (v := (-2000000 : Int32)) hx hb hown (hts _ mw_715) dX9_come_36 ?_
    refine lv_icmp_eq (pc := 38) (tgt := 51) hx hb dX9_come_38 (by decide) (fun h => ?_) (fun h => ?_)
    · replace hw := if_t h hw
      exact j_X9_come_51 C hC h0 x3_4 x3_4 M _ _ _ hw hP hS (lv_sub hl [1, 2, 3, 0] rfl) (cl_29_2 hC h0)
    · replace hw := if_f h hw
      refine lv_iload_n (pc := 41) hx hb dX9_come_41 rfl (lv_at hl 3 rfl) ?_
      refine lv_aload_n (pc := 42) hx hb dX9_come_42 rfl (lv_at hl 1 rfl) ?_
      refine gf_718 (pc := 43) C hP h0 dX9_come_43 ?_
      refine lv_iload_n (pc := 46) hx hb dX9_come_46 rfl (lv_at hl 0 rfl) ?_
      refine r_ialdK (pc := 47) (n := 288) (k := x3_4.toNatClampNeg) C hP (cl_29_2 hC h0) (fun _ _ _ _ => rfl) hw.1 rfl dX9_come_47 ?_
      replace hw := hw.2
      refine lv_icmp_ge (pc := 48) (tgt := 55) hx hb dX9_come_48 (by decide) (fun h => ?_) (fun h => ?_)
      · replace hw := if_t h hw
        refine lv_aload_n (pc := 55) hx hb dX9_come_55 rfl (lv_at hl 1 rfl) ?_
        refine gf_718 (pc := 56) C hP h0 dX9_come_56 ?_
        refine lv_iload_n (pc := 59) hx hb dX9_come_59 rfl (lv_at hl 0 rfl) ?_
        refine r_ialdK (pc := 60) (n := 288) (k := x3_4.toNatClampNeg) C hP (cl_29_2 hC h0) (fun _ _ _ _ => rfl) hw.1 rfl dX9_come_60 ?_
        replace hw := hw.2
        exact j_X9_come_61 C hC h0 x3_4 (M.1 (32, 0, 0, 0) x3_4.toNatClampNeg) x3_4 M _ _ _ hw hP hS (lv_sub hl [1, 2, 3, 0] rfl) (cl_29_2 hC h0)
      · replace hw := if_f h hw
        exact j_X9_come_51 C hC h0 x3_4 x3_4 M _ _ _ hw hP hS (lv_sub hl [1, 2, 3, 0] rfl) (cl_29_2 hC h0)
  · replace hw := if_t h hw
    refine lv_aload_n (pc := 12) hx hb dX9_come_12 rfl (lv_at hl 1 rfl) ?_
    refine gf_718 (pc := 13) C hP h0 dX9_come_13 ?_
    refine lv_iload_n (pc := 16) hx hb dX9_come_16 rfl (lv_at hl 0 rfl) ?_
    refine lv_iconst (pc := 17) (v := (2 : Int32)) hx hb dX9_come_17 (by decide) ?_
    refine lv_iadd (pc := 18) hx hb dX9_come_18 ?_
    refine lv_dup2_11 (pc := 19) hx hb dX9_come_19 rfl rfl ?_
    refine r_ialdK (pc := 20) (n := 288) (k := (x3_4 + (2 : Int32)).toNatClampNeg) C hP (cl_29_2 hC h0) (fun _ _ _ _ => rfl) hw.1 rfl dX9_come_20 ?_
    replace hw := hw.2
    refine lv_iconst (pc := 21) (v := (1 : Int32)) hx hb dX9_come_21 (by decide) ?_
    refine lv_iadd (pc := 22) hx hb dX9_come_22 ?_
    refine r_iastK (pc := 23) (n := 288) (k := (x3_4 + (2 : Int32)).toNatClampNeg) C hP hS (cl_29_2 hC h0) (fun _ _ _ _ => rfl) hw.1 rfl dX9_come_23 (fun H locs hP hS => ?_)
    replace hw := hw.2
    exact r_vret (pc := 24) C hP hS hw dX9_come_24
end
theorem k_X9_come (l : Launch) (G : GG) {I : ix → Prop} {ad : ix → Nat} (hC : clo I) {a1 : Int32} {a2 : Int32} (h0 : I (29, 0, 0, 0)) {Q : Mem → Prop} {M : Mem} (hw : w_X9_come a1 a2 Q M) : Met l yX9_come (wW yX9_come cX9_come 5 none) rm_X9_come (va_Pc [.ref (ad (29, 0, 0, 0)), .int a1, .int a2] (fun U => wd G I ad M U.heap ∧ wK G U)) (qV G I ad Q) 0 0 (fA I ad) := met_of (by decide +kernel) (Nat.le_of_ble_eq_true rfl) (fun p e s m below meth c C hP hS ls hl => j_X9_come_0 C hC h0 _ _ _ _ hw hP hS hl)
section
variable {p : Program} {l : Launch} {e : Env} {s : State} {m : MethodId} {args : Array Value} {below : List Frame} {meth : Method} {c : Code} 
variable  {G : GG} {I : ix → Prop} {ad : ix → Nat}
set_option maxHeartbeats 4000000 in
set_option maxRecDepth 100000 in
theorem j_X9_add_83 {a1 : Int32} {a2 : Int32} {a3 : Int32} {a4 : Int32} {a5 : Int32} (C : cx p s m args meth c cX9_add 8 (some .int) RX9 G) (hC : clo I) (h0 : I (29, 0, 0, 0)) {Q : Int32 → Mem → Prop} : ∀ (n : Nat), ∀ (x6 : Int32) (M : Mem) (H : Heap) (locs : List Loc) (ls : Array Slot), w_X9_add_83 a1 a2 a3 a4 a5 Q n x6 M → wd G I ad M H → va_S (fA I ad) s.heap H locs → lv_has ls 8 [(0, .ref (ad (29, 0, 0, 0))), (1, .int a1), (2, .int a2), (3, .int a3), (4, .int a4), (5, .int a5), (6, .int x6)] → W p l e rm_X9_add s m args below meth c H locs 0 0 (MQ below (qI G I ad Q) args s 0 0 (fA I ad)) (F0 m 83 ls []) := by
  have hx := C.1
  have hb := C.2.1
  have hown := C.2.2.2.1
  have hts := C.2.2.2.2.1
  intro n
  induction n with
  | zero =>
    intro x6 M H locs ls hw hP hS hl
    rw [w_X9_add_83] at hw
    exact hw.elim
  | succ n ih =>
    intro x6 M H locs ls hw hP hS hl
    rw [w_X9_add_83] at hw
    refine lv_iload (pc := 83) hx hb dX9_add_83 (lv_at hl 6 rfl) ?_
    refine lv_iconst (pc := 85) (v := (4 : Int32)) hx hb dX9_add_85 (by decide) ?_
    refine lv_icmp_ge (pc := 86) (tgt := 164) hx hb dX9_add_86 (by decide) (fun h => ?_) (fun h => ?_)
    · replace hw := if_t h hw
      refine lv_aload_n (pc := 164) hx hb dX9_add_164 rfl (lv_at hl 0 rfl) ?_
      refine gf_717 (pc := 165) C hP h0 dX9_add_165 ?_
      refine lv_iload_n (pc := 168) hx hb dX9_add_168 rfl (lv_at hl 1 rfl) ?_
      refine lv_dup2_11 (pc := 169) hx hb dX9_add_169 rfl rfl ?_
      refine r_ialdK (pc := 170) (n := 6) (k := a1.toNatClampNeg) C hP (cl_29_1 hC h0) (fun _ _ _ _ => rfl) hw.1 rfl dX9_add_170 ?_
      replace hw := hw.2
      refine lv_iconst (pc := 171) (v := (1 : Int32)) hx hb dX9_add_171 (by decide) ?_
      refine lv_iadd (pc := 172) hx hb dX9_add_172 ?_
      refine r_iastK (pc := 173) (n := 6) (k := a1.toNatClampNeg) C hP hS (cl_29_1 hC h0) (fun _ _ _ _ => rfl) hw.1 rfl dX9_add_173 (fun H locs hP hS => ?_)
      replace hw := hw.2
      refine lv_aload_n (pc := 174) hx hb dX9_add_174 rfl (lv_at hl 0 rfl) ?_
      refine gf_717 (pc := 175) C hP h0 dX9_add_175 ?_
      refine lv_iload_n (pc := 178) hx hb dX9_add_178 rfl (lv_at hl 1 rfl) ?_
      refine r_ialdK (pc := 179) (n := 6) (k := a1.toNatClampNeg) C hP (cl_29_1 hC h0) (fun _ _ _ _ => rfl) hw.1 rfl dX9_add_179 ?_
      replace hw := hw.2
      exact r_iret (pc := 180) C hP hS hw dX9_add_180
    · replace hw := if_f h hw
      refine lv_iload (pc := 89) hx hb dX9_add_89 (lv_at hl 6 rfl) ?_
      refine lv_if_ne (pc := 91) (tgt := 98) hx hb dX9_add_91 (by decide) (fun h => ?_) (fun h => ?_)
      · replace hw := if_f h hw
        refine lv_iload (pc := 98) hx hb dX9_add_98 (lv_at hl 6 rfl) ?_
        refine lv_iconst (pc := 100) (v := (1 : Int32)) hx hb dX9_add_100 (by decide) ?_
        refine lv_icmp_ne (pc := 101) (tgt := 108) hx hb dX9_add_101 (by decide) (fun h => ?_) (fun h => ?_)
        · replace hw := if_f h hw
          refine lv_iload (pc := 108) hx hb dX9_add_108 (lv_at hl 6 rfl) ?_
          refine lv_iconst (pc := 110) (v := (2 : Int32)) hx hb dX9_add_110 (by decide) ?_
          refine lv_icmp_ne (pc := 111) (tgt := 119) hx hb dX9_add_111 (by decide) (fun h => ?_) (fun h => ?_)
          · replace hw := if_f h hw
            refine lv_iload (pc := 119) hx hb dX9_add_119 (lv_at hl 5 rfl) ?_
            refine lv_istore (pc := 121) (lv' := [(7, .int a5), (0, .ref (ad (29, 0, 0, 0))), (1, .int a1), (2, .int a2), (3, .int a3), (4, .int a4), (5, .int a5), (6, .int x6)]) hx hb dX9_add_121 hl (by decide) rfl (fun ls hl => ?_)
            refine lv_aload_n (pc := 123) hx hb dX9_add_123 rfl (lv_at hl 1 rfl) ?_
            refine gf_716 (pc := 124) C hP h0 dX9_add_124 ?_
            refine lv_bipush (pc := 127) (v := (32 : Int32)) hx hb dX9_add_127 (by decide) ?_
            refine lv_iload_n (pc := 129) hx hb dX9_add_129 rfl (lv_at hl 2 rfl) ?_
            refine lv_imul (pc := 130) hx hb dX9_add_130 ?_
            refine lv_iconst (pc := 131) (v := (4 : Int32)) hx hb dX9_add_131 (by decide) ?_
            refine lv_aload_n (pc := 132) hx hb dX9_add_132 rfl (lv_at hl 1 rfl) ?_
            refine gf_717 (pc := 133) C hP h0 dX9_add_133 ?_
            refine lv_iload_n (pc := 136) hx hb dX9_add_136 rfl (lv_at hl 2 rfl) ?_
            refine r_ialdK (pc := 137) (n := 6) (k := a1.toNatClampNeg) C hP (cl_29_1 hC h0) (fun _ _ _ _ => rfl) hw.1 rfl dX9_add_137 ?_
            replace hw := hw.2
            refine lv_imul (pc := 138) hx hb dX9_add_138 ?_
            refine lv_iadd (pc := 139) hx hb dX9_add_139 ?_
            refine lv_iload (pc := 140) hx hb dX9_add_140 (lv_at hl 7 rfl) ?_
            refine lv_iadd (pc := 142) hx hb dX9_add_142 ?_
            refine lv_iload (pc := 143) hx hb dX9_add_143 (lv_at hl 0 rfl) ?_
            refine r_iastK (pc := 145) (n := 192) (k := ((((32 : Int32) * a1) + ((4 : Int32) * (M.1 (31, 0, 0, 0) a1.toNatClampNeg))) + x6).toNatClampNeg) C hP hS (cl_29_0 hC h0) (fun _ _ _ _ => rfl) hw.1 rfl dX9_add_145 (fun H locs hP hS => ?_)
            replace hw := hw.2
            refine lv_aload_n (pc := 146) hx hb dX9_add_146 rfl (lv_at hl 1 rfl) ?_
            refine lv_iconst (pc := 147) (v := (4 : Int32)) hx hb dX9_add_147 (by decide) ?_
            refine lv_iload_n (pc := 148) hx hb dX9_add_148 rfl (lv_at hl 2 rfl) ?_
            refine lv_imul (pc := 149) hx hb dX9_add_149 ?_
            refine lv_iload (pc := 150) hx hb dX9_add_150 (lv_at hl 7 rfl) ?_
            refine lv_iadd (pc := 152) hx hb dX9_add_152 ?_
            refine lv_iload (pc := 153) hx hb dX9_add_153 (lv_at hl 0 rfl) ?_
            refine r_cVV (pc := 155) (rest := []) (As := [.int (((4 : Int32) * a1) + x6), .int a5]) C hl.1 hP hS (k_X9_come l G hC h0 hw) h0 rfl rfl mw_782 mw_784 mw_35 mw_65 mw_785 ⟨rfl, rfl⟩ hd_X9_come rfl rfl ⟨Nat.le_of_ble_eq_true rfl, Nat.le_of_ble_eq_true rfl⟩ (Nat.le_of_ble_eq_true rfl) ⟨Nat.zero_le _, Nat.zero_le _⟩ dX9_add_155 (fun M155 H locs hw hP hS => ?_)
            refine lv_iinc (pc := 158) (v := x6 + 1) (lv' := [(6, .int (x6 + 1)), (7, .int a5), (0, .ref (ad (29, 0, 0, 0))), (1, .int a1), (2, .int a2), (3, .int a3), (4, .int a4), (5, .int a5)]) hx hb dX9_add_158 hl (k := 7) rfl rfl (by decide) rfl (fun ls hl => ?_)
            refine lv_goto (pc := 161) (tgt := 83) hx hb dX9_add_161 (by decide) ?_
            exact ih (x6 + 1) M155 _ _ _ hw hP hS (lv_sub hl [2, 3, 4, 5, 6, 7, 0] rfl)
          · replace hw := if_t h hw
            refine lv_iload (pc := 114) hx hb dX9_add_114 (lv_at hl 4 rfl) ?_
            refine lv_goto (pc := 116) (tgt := 121) hx hb dX9_add_116 (by decide) ?_
            refine lv_istore (pc := 121) (lv' := [(7, .int a4), (0, .ref (ad (29, 0, 0, 0))), (1, .int a1), (2, .int a2), (3, .int a3), (4, .int a4), (5, .int a5), (6, .int x6)]) hx hb dX9_add_121 hl (by decide) rfl (fun ls hl => ?_)
            refine lv_aload_n (pc := 123) hx hb dX9_add_123 rfl (lv_at hl 1 rfl) ?_
            refine gf_716 (pc := 124) C hP h0 dX9_add_124 ?_
            refine lv_bipush (pc := 127) (v := (32 : Int32)) hx hb dX9_add_127 (by decide) ?_
            refine lv_iload_n (pc := 129) hx hb dX9_add_129 rfl (lv_at hl 2 rfl) ?_
            refine lv_imul (pc := 130) hx hb dX9_add_130 ?_
            refine lv_iconst (pc := 131) (v := (4 : Int32)) hx hb dX9_add_131 (by decide) ?_
            refine lv_aload_n (pc := 132) hx hb dX9_add_132 rfl (lv_at hl 1 rfl) ?_
            refine gf_717 (pc := 133) C hP h0 dX9_add_133 ?_
            refine lv_iload_n (pc := 136) hx hb dX9_add_136 rfl (lv_at hl 2 rfl) ?_
            refine r_ialdK (pc := 137) (n := 6) (k := a1.toNatClampNeg) C hP (cl_29_1 hC h0) (fun _ _ _ _ => rfl) hw.1 rfl dX9_add_137 ?_
            replace hw := hw.2
            refine lv_imul (pc := 138) hx hb dX9_add_138 ?_
            refine lv_iadd (pc := 139) hx hb dX9_add_139 ?_
            refine lv_iload (pc := 140) hx hb dX9_add_140 (lv_at hl 7 rfl) ?_
            refine lv_iadd (pc := 142) hx hb dX9_add_142 ?_
            refine lv_iload (pc := 143) hx hb dX9_add_143 (lv_at hl 0 rfl) ?_
            refine r_iastK (pc := 145) (n := 192) (k := ((((32 : Int32) * a1) + ((4 : Int32) * (M.1 (31, 0, 0, 0) a1.toNatClampNeg))) + x6).toNatClampNeg) C hP hS (cl_29_0 hC h0) (fun _ _ _ _ => rfl) hw.1 rfl dX9_add_145 (fun H locs hP hS => ?_)
            replace hw := hw.2
            refine lv_aload_n (pc := 146) hx hb dX9_add_146 rfl (lv_at hl 1 rfl) ?_
            refine lv_iconst (pc := 147) (v := (4 : Int32)) hx hb dX9_add_147 (by decide) ?_
            refine lv_iload_n (pc := 148) hx hb dX9_add_148 rfl (lv_at hl 2 rfl) ?_
            refine lv_imul (pc := 149) hx hb dX9_add_149 ?_
            refine lv_iload (pc := 150) hx hb dX9_add_150 (lv_at hl 7 rfl) ?_
            refine lv_iadd (pc := 152) hx hb dX9_add_152 ?_
            refine lv_iload (pc := 153) hx hb dX9_add_153 (lv_at hl 0 rfl) ?_
            refine r_cVV (pc := 155) (rest := []) (As := [.int (((4 : Int32) * a1) + x6), .int a4]) C hl.1 hP hS (k_X9_come l G hC h0 hw) h0 rfl rfl mw_782 mw_784 mw_35 mw_65 mw_785 ⟨rfl, rfl⟩ hd_X9_come rfl rfl ⟨Nat.le_of_ble_eq_true rfl, Nat.le_of_ble_eq_true rfl⟩ (Nat.le_of_ble_eq_true rfl) ⟨Nat.zero_le _, Nat.zero_le _⟩ dX9_add_155 (fun M155 H locs hw hP hS => ?_)
            refine lv_iinc (pc := 158) (v := x6 + 1) (lv' := [(6, .int (x6 + 1)), (7, .int a4), (0, .ref (ad (29, 0, 0, 0))), (1, .int a1), (2, .int a2), (3, .int a3), (4, .int a4), (5, .int a5)]) hx hb dX9_add_158 hl (k := 7) rfl rfl (by decide) rfl (fun ls hl => ?_)
            refine lv_goto (pc := 161) (tgt := 83) hx hb dX9_add_161 (by decide) ?_
            exact ih (x6 + 1) M155 _ _ _ hw hP hS (lv_sub hl [2, 3, 4, 5, 6, 7, 0] rfl)
        · replace hw := if_t h hw
          refine lv_iload_n (pc := 104) hx hb dX9_add_104 rfl (lv_at hl 3 rfl) ?_
          refine lv_goto (pc := 105) (tgt := 121) hx hb dX9_add_105 (by decide) ?_
          refine lv_istore (pc := 121) (lv' := [(7, .int a3), (0, .ref (ad (29, 0, 0, 0))), (1, .int a1), (2, .int a2), (3, .int a3), (4, .int a4), (5, .int a5), (6, .int x6)]) hx hb dX9_add_121 hl (by decide) rfl (fun ls hl => ?_)
          refine lv_aload_n (pc := 123) hx hb dX9_add_123 rfl (lv_at hl 1 rfl) ?_
          refine gf_716 (pc := 124) C hP h0 dX9_add_124 ?_
          refine lv_bipush (pc := 127) (v := (32 : Int32)) hx hb dX9_add_127 (by decide) ?_
          refine lv_iload_n (pc := 129) hx hb dX9_add_129 rfl (lv_at hl 2 rfl) ?_
          refine lv_imul (pc := 130) hx hb dX9_add_130 ?_
          refine lv_iconst (pc := 131) (v := (4 : Int32)) hx hb dX9_add_131 (by decide) ?_
          refine lv_aload_n (pc := 132) hx hb dX9_add_132 rfl (lv_at hl 1 rfl) ?_
          refine gf_717 (pc := 133) C hP h0 dX9_add_133 ?_
          refine lv_iload_n (pc := 136) hx hb dX9_add_136 rfl (lv_at hl 2 rfl) ?_
          refine r_ialdK (pc := 137) (n := 6) (k := a1.toNatClampNeg) C hP (cl_29_1 hC h0) (fun _ _ _ _ => rfl) hw.1 rfl dX9_add_137 ?_
          replace hw := hw.2
          refine lv_imul (pc := 138) hx hb dX9_add_138 ?_
          refine lv_iadd (pc := 139) hx hb dX9_add_139 ?_
          refine lv_iload (pc := 140) hx hb dX9_add_140 (lv_at hl 7 rfl) ?_
          refine lv_iadd (pc := 142) hx hb dX9_add_142 ?_
          refine lv_iload (pc := 143) hx hb dX9_add_143 (lv_at hl 0 rfl) ?_
          refine r_iastK (pc := 145) (n := 192) (k := ((((32 : Int32) * a1) + ((4 : Int32) * (M.1 (31, 0, 0, 0) a1.toNatClampNeg))) + x6).toNatClampNeg) C hP hS (cl_29_0 hC h0) (fun _ _ _ _ => rfl) hw.1 rfl dX9_add_145 (fun H locs hP hS => ?_)
          replace hw := hw.2
          refine lv_aload_n (pc := 146) hx hb dX9_add_146 rfl (lv_at hl 1 rfl) ?_
          refine lv_iconst (pc := 147) (v := (4 : Int32)) hx hb dX9_add_147 (by decide) ?_
          refine lv_iload_n (pc := 148) hx hb dX9_add_148 rfl (lv_at hl 2 rfl) ?_
          refine lv_imul (pc := 149) hx hb dX9_add_149 ?_
          refine lv_iload (pc := 150) hx hb dX9_add_150 (lv_at hl 7 rfl) ?_
          refine lv_iadd (pc := 152) hx hb dX9_add_152 ?_
          refine lv_iload (pc := 153) hx hb dX9_add_153 (lv_at hl 0 rfl) ?_
          refine r_cVV (pc := 155) (rest := []) (As := [.int (((4 : Int32) * a1) + x6), .int a3]) C hl.1 hP hS (k_X9_come l G hC h0 hw) h0 rfl rfl mw_782 mw_784 mw_35 mw_65 mw_785 ⟨rfl, rfl⟩ hd_X9_come rfl rfl ⟨Nat.le_of_ble_eq_true rfl, Nat.le_of_ble_eq_true rfl⟩ (Nat.le_of_ble_eq_true rfl) ⟨Nat.zero_le _, Nat.zero_le _⟩ dX9_add_155 (fun M155 H locs hw hP hS => ?_)
          refine lv_iinc (pc := 158) (v := x6 + 1) (lv' := [(6, .int (x6 + 1)), (7, .int a3), (0, .ref (ad (29, 0, 0, 0))), (1, .int a1), (2, .int a2), (3, .int a3), (4, .int a4), (5, .int a5)]) hx hb dX9_add_158 hl (k := 7) rfl rfl (by decide) rfl (fun ls hl => ?_)
          refine lv_goto (pc := 161) (tgt := 83) hx hb dX9_add_161 (by decide) ?_
          exact ih (x6 + 1) M155 _ _ _ hw hP hS (lv_sub hl [2, 3, 4, 5, 6, 7, 0] rfl)
      · replace hw := if_t h hw
        refine lv_iload_n (pc := 94) hx hb dX9_add_94 rfl (lv_at hl 2 rfl) ?_
        refine lv_goto (pc := 95) (tgt := 121) hx hb dX9_add_95 (by decide) ?_
        refine lv_istore (pc := 121) (lv' := [(7, .int a2), (0, .ref (ad (29, 0, 0, 0))), (1, .int a1), (2, .int a2), (3, .int a3), (4, .int a4), (5, .int a5), (6, .int x6)]) hx hb dX9_add_121 hl (by decide) rfl (fun ls hl => ?_)
        refine lv_aload_n (pc := 123) hx hb dX9_add_123 rfl (lv_at hl 1 rfl) ?_
        refine gf_716 (pc := 124) C hP h0 dX9_add_124 ?_
        refine lv_bipush (pc := 127) (v := (32 : Int32)) hx hb dX9_add_127 (by decide) ?_
        refine lv_iload_n (pc := 129) hx hb dX9_add_129 rfl (lv_at hl 2 rfl) ?_
        refine lv_imul (pc := 130) hx hb dX9_add_130 ?_
        refine lv_iconst (pc := 131) (v := (4 : Int32)) hx hb dX9_add_131 (by decide) ?_
        refine lv_aload_n (pc := 132) hx hb dX9_add_132 rfl (lv_at hl 1 rfl) ?_
        refine gf_717 (pc := 133) C hP h0 dX9_add_133 ?_
        refine lv_iload_n (pc := 136) hx hb dX9_add_136 rfl (lv_at hl 2 rfl) ?_
        refine r_ialdK (pc := 137) (n := 6) (k := a1.toNatClampNeg) C hP (cl_29_1 hC h0) (fun _ _ _ _ => rfl) hw.1 rfl dX9_add_137 ?_
        replace hw := hw.2
        refine lv_imul (pc := 138) hx hb dX9_add_138 ?_
        refine lv_iadd (pc := 139) hx hb dX9_add_139 ?_
        refine lv_iload (pc := 140) hx hb dX9_add_140 (lv_at hl 7 rfl) ?_
        refine lv_iadd (pc := 142) hx hb dX9_add_142 ?_
        refine lv_iload (pc := 143) hx hb dX9_add_143 (lv_at hl 0 rfl) ?_
        refine r_iastK (pc := 145) (n := 192) (k := ((((32 : Int32) * a1) + ((4 : Int32) * (M.1 (31, 0, 0, 0) a1.toNatClampNeg))) + x6).toNatClampNeg) C hP hS (cl_29_0 hC h0) (fun _ _ _ _ => rfl) hw.1 rfl dX9_add_145 (fun H locs hP hS => ?_)
        replace hw := hw.2
        refine lv_aload_n (pc := 146) hx hb dX9_add_146 rfl (lv_at hl 1 rfl) ?_
        refine lv_iconst (pc := 147) (v := (4 : Int32)) hx hb dX9_add_147 (by decide) ?_
        refine lv_iload_n (pc := 148) hx hb dX9_add_148 rfl (lv_at hl 2 rfl) ?_
        refine lv_imul (pc := 149) hx hb dX9_add_149 ?_
        refine lv_iload (pc := 150) hx hb dX9_add_150 (lv_at hl 7 rfl) ?_
        refine lv_iadd (pc := 152) hx hb dX9_add_152 ?_
        refine lv_iload (pc := 153) hx hb dX9_add_153 (lv_at hl 0 rfl) ?_
        refine r_cVV (pc := 155) (rest := []) (As := [.int (((4 : Int32) * a1) + x6), .int a2]) C hl.1 hP hS (k_X9_come l G hC h0 hw) h0 rfl rfl mw_782 mw_784 mw_35 mw_65 mw_785 ⟨rfl, rfl⟩ hd_X9_come rfl rfl ⟨Nat.le_of_ble_eq_true rfl, Nat.le_of_ble_eq_true rfl⟩ (Nat.le_of_ble_eq_true rfl) ⟨Nat.zero_le _, Nat.zero_le _⟩ dX9_add_155 (fun M155 H locs hw hP hS => ?_)
        refine lv_iinc (pc := 158) (v := x6 + 1) (lv' := [(6, .int (x6 + 1)), (7, .int a2), (0, .ref (ad (29, 0, 0, 0))), (1, .int a1), (2, .int a2), (3, .int a3), (4, .int a4), (5, .int a5)]) hx hb dX9_add_158 hl (k := 7) rfl rfl (by decide) rfl (fun ls hl => ?_)
        refine lv_goto (pc := 161) (tgt := 83) hx hb dX9_add_161 (by decide) ?_
        exact ih (x6 + 1) M155 _ _ _ hw hP hS (lv_sub hl [2, 3, 4, 5, 6, 7, 0] rfl)
set_option maxHeartbeats 4000000 in
set_option maxRecDepth 100000 in
theorem j_X9_add_0 {a1 : Int32} {a2 : Int32} {a3 : Int32} {a4 : Int32} {a5 : Int32} (C : cx p s m args meth c cX9_add 8 (some .int) RX9 G) (hC : clo I) (h0 : I (29, 0, 0, 0)) {Q : Int32 → Mem → Prop} : ∀ (M : Mem) (H : Heap) (locs : List Loc) (ls : Array Slot), w_X9_add a1 a2 a3 a4 a5 Q M → wd G I ad M H → va_S (fA I ad) s.heap H locs → lv_has ls 8 [(0, .ref (ad (29, 0, 0, 0))), (1, .int a1), (2, .int a2), (3, .int a3), (4, .int a4), (5, .int a5)] → W p l e rm_X9_add s m args below meth c H locs 0 0 (MQ below (qI G I ad Q) args s 0 0 (fA I ad)) (F0 m 0 ls []) := by
  have hx := C.1
  have hb := C.2.1
  have hown := C.2.2.2.1
  have hts := C.2.2.2.2.1
  intro M H locs ls hw hP hS hl
  unfold w_X9_add at hw
  refine lv_iload_n (pc := 0) hx hb dX9_add_0 rfl (lv_at hl 1 rfl) ?_
  refine r_cSI (pc := 1) (rest := []) (As := [.int a1]) C hl.1 hP hS (k_X9_isBlock l G hC  hw) mw_776 mw_777 mw_65 mw_778 ⟨rfl, rfl⟩ hd_X9_isBlock rfl rfl ⟨Nat.le_of_ble_eq_true rfl, Nat.le_of_ble_eq_true rfl⟩ (Nat.le_of_ble_eq_true rfl) ⟨Nat.zero_le _, Nat.zero_le _⟩ dX9_add_1 (fun r1 M1 H locs hw hP hS => ?_)
  refine lv_if_ne (pc := 4) (tgt := 9) hx hb dX9_add_4 (by decide) (fun h => ?_) (fun h => ?_)
  · replace hw := if_f h hw
    refine lv_iload_n (pc := 9) hx hb dX9_add_9 rfl (lv_at hl 2 rfl) ?_
    refine lv_sipush (pc := 10) (v := (-999 : Int32)) hx hb dX9_add_10 (by decide) ?_
    refine lv_sipush (pc := 13) (v := (1000 : Int32)) hx hb dX9_add_13 (by decide) ?_
    refine r_cSI (pc := 16) (rest := []) (As := [.int a2, .int (-999 : Int32), .int (1000 : Int32)]) C hl.1 hP hS (k_X9_in l G hC  hw) mw_779 mw_780 mw_65 mw_781 ⟨rfl, rfl⟩ hd_X9_in rfl rfl ⟨Nat.le_of_ble_eq_true rfl, Nat.le_of_ble_eq_true rfl⟩ (Nat.le_of_ble_eq_true rfl) ⟨Nat.zero_le _, Nat.zero_le _⟩ dX9_add_16 (fun r16 M16 H locs hw hP hS => ?_)
    refine lv_if_eq (pc := 19) (tgt := 63) hx hb dX9_add_19 (by decide) (fun h => ?_) (fun h => ?_)
    · replace hw := if_t h hw
      refine lv_bipush (pc := 63) (v := (-2 : Int32)) hx hb dX9_add_63 (by decide) ?_
      exact r_iret (pc := 65) C hP hS hw dX9_add_65
    · replace hw := if_f h hw
      refine lv_iload_n (pc := 22) hx hb dX9_add_22 rfl (lv_at hl 3 rfl) ?_
      refine lv_sipush (pc := 23) (v := (-999 : Int32)) hx hb dX9_add_23 (by decide) ?_
      refine lv_sipush (pc := 26) (v := (1000 : Int32)) hx hb dX9_add_26 (by decide) ?_
      refine r_cSI (pc := 29) (rest := []) (As := [.int a3, .int (-999 : Int32), .int (1000 : Int32)]) C hl.1 hP hS (k_X9_in l G hC  hw) mw_779 mw_780 mw_65 mw_781 ⟨rfl, rfl⟩ hd_X9_in rfl rfl ⟨Nat.le_of_ble_eq_true rfl, Nat.le_of_ble_eq_true rfl⟩ (Nat.le_of_ble_eq_true rfl) ⟨Nat.zero_le _, Nat.zero_le _⟩ dX9_add_29 (fun r29 M29 H locs hw hP hS => ?_)
      refine lv_if_eq (pc := 32) (tgt := 63) hx hb dX9_add_32 (by decide) (fun h => ?_) (fun h => ?_)
      · replace hw := if_t h hw
        refine lv_bipush (pc := 63) (v := (-2 : Int32)) hx hb dX9_add_63 (by decide) ?_
        exact r_iret (pc := 65) C hP hS hw dX9_add_65
      · replace hw := if_f h hw
        refine lv_iload (pc := 35) hx hb dX9_add_35 (lv_at hl 4 rfl) ?_
        refine lv_sipush (pc := 37) (v := (-999 : Int32)) hx hb dX9_add_37 (by decide) ?_
        refine lv_sipush (pc := 40) (v := (1000 : Int32)) hx hb dX9_add_40 (by decide) ?_
        refine r_cSI (pc := 43) (rest := []) (As := [.int a4, .int (-999 : Int32), .int (1000 : Int32)]) C hl.1 hP hS (k_X9_in l G hC  hw) mw_779 mw_780 mw_65 mw_781 ⟨rfl, rfl⟩ hd_X9_in rfl rfl ⟨Nat.le_of_ble_eq_true rfl, Nat.le_of_ble_eq_true rfl⟩ (Nat.le_of_ble_eq_true rfl) ⟨Nat.zero_le _, Nat.zero_le _⟩ dX9_add_43 (fun r43 M43 H locs hw hP hS => ?_)
        refine lv_if_eq (pc := 46) (tgt := 63) hx hb dX9_add_46 (by decide) (fun h => ?_) (fun h => ?_)
        · replace hw := if_t h hw
          refine lv_bipush (pc := 63) (v := (-2 : Int32)) hx hb dX9_add_63 (by decide) ?_
          exact r_iret (pc := 65) C hP hS hw dX9_add_65
        · replace hw := if_f h hw
          refine lv_iload (pc := 49) hx hb dX9_add_49 (lv_at hl 5 rfl) ?_
          refine lv_sipush (pc := 51) (v := (-999 : Int32)) hx hb dX9_add_51 (by decide) ?_
          refine lv_sipush (pc := 54) (v := (1000 : Int32)) hx hb dX9_add_54 (by decide) ?_
          refine r_cSI (pc := 57) (rest := []) (As := [.int a5, .int (-999 : Int32), .int (1000 : Int32)]) C hl.1 hP hS (k_X9_in l G hC  hw) mw_779 mw_780 mw_65 mw_781 ⟨rfl, rfl⟩ hd_X9_in rfl rfl ⟨Nat.le_of_ble_eq_true rfl, Nat.le_of_ble_eq_true rfl⟩ (Nat.le_of_ble_eq_true rfl) ⟨Nat.zero_le _, Nat.zero_le _⟩ dX9_add_57 (fun r57 M57 H locs hw hP hS => ?_)
          refine lv_if_ne (pc := 60) (tgt := 66) hx hb dX9_add_60 (by decide) (fun h => ?_) (fun h => ?_)
          · replace hw := if_f h hw
            refine lv_aload_n (pc := 66) hx hb dX9_add_66 rfl (lv_at hl 0 rfl) ?_
            refine gf_717 (pc := 67) C hP h0 dX9_add_67 ?_
            refine lv_iload_n (pc := 70) hx hb dX9_add_70 rfl (lv_at hl 1 rfl) ?_
            refine r_ialdK (pc := 71) (n := 6) (k := a1.toNatClampNeg) C hP (cl_29_1 hC h0) (fun _ _ _ _ => rfl) hw.1 rfl dX9_add_71 ?_
            replace hw := hw.2
            refine lv_bipush (pc := 72) (v := (8 : Int32)) hx hb dX9_add_72 (by decide) ?_
            refine lv_icmp_ne (pc := 74) (tgt := 80) hx hb dX9_add_74 (by decide) (fun h => ?_) (fun h => ?_)
            · replace hw := if_f h hw
              refine lv_iconst (pc := 80) (v := (0 : Int32)) hx hb dX9_add_80 (by decide) ?_
              refine lv_istore (pc := 81) (lv' := [(6, .int (0 : Int32)), (0, .ref (ad (29, 0, 0, 0))), (1, .int a1), (2, .int a2), (3, .int a3), (4, .int a4), (5, .int a5)]) hx hb dX9_add_81 hl (by decide) rfl (fun ls hl => ?_)
              obtain ⟨n0, hw⟩ := hw
              exact j_X9_add_83 C hC h0 n0 (0 : Int32) M57 _ _ _ hw hP hS (lv_sub hl [1, 2, 3, 4, 5, 6, 0] rfl)
            · replace hw := if_t h hw
              refine lv_bipush (pc := 77) (v := (-4 : Int32)) hx hb dX9_add_77 (by decide) ?_
              exact r_iret (pc := 79) C hP hS hw dX9_add_79
          · replace hw := if_t h hw
            refine lv_bipush (pc := 63) (v := (-2 : Int32)) hx hb dX9_add_63 (by decide) ?_
            exact r_iret (pc := 65) C hP hS hw dX9_add_65
  · replace hw := if_t h hw
    refine lv_iconst (pc := 7) (v := (-1 : Int32)) hx hb dX9_add_7 (by decide) ?_
    exact r_iret (pc := 8) C hP hS hw dX9_add_8
end
theorem k_X9_add (l : Launch) (G : GG) {I : ix → Prop} {ad : ix → Nat} (hC : clo I) {a1 : Int32} {a2 : Int32} {a3 : Int32} {a4 : Int32} {a5 : Int32} (h0 : I (29, 0, 0, 0)) {Q : Int32 → Mem → Prop} {M : Mem} (hw : w_X9_add a1 a2 a3 a4 a5 Q M) : Met l yX9_add (wW yX9_add cX9_add 8 (some .int)) rm_X9_add (va_Pc [.ref (ad (29, 0, 0, 0)), .int a1, .int a2, .int a3, .int a4, .int a5] (fun U => wd G I ad M U.heap ∧ wK G U)) (qI G I ad Q) 0 0 (fA I ad) := met_of (by decide +kernel) (Nat.le_of_ble_eq_true rfl) (fun p e s m below meth c C hP hS ls hl => j_X9_add_0 C hC h0 _ _ _ _ hw hP hS hl)
section
variable {p : Program} {l : Launch} {e : Env} {s : State} {m : MethodId} {args : Array Value} {below : List Frame} {meth : Method} {c : Code} 
variable  {G : GG} {I : ix → Prop} {ad : ix → Nat}
set_option maxHeartbeats 4000000 in
set_option maxRecDepth 100000 in
theorem j_X9_drop_127 {a1 : Int32} {a2 : Int32} (C : cx p s m args meth c cX9_drop 6 (some .int) RX9 G) (hC : clo I) (h0 : I (29, 0, 0, 0)) {Q : Int32 → Mem → Prop} : ∀ (n : Nat), ∀ (x3 : Int32) (M : Mem) (H : Heap) (locs : List Loc) (ls : Array Slot), w_X9_drop_127 a1 a2 Q n x3 M → wd G I ad M H → va_S (fA I ad) s.heap H locs → lv_has ls 6 [(0, .ref (ad (29, 0, 0, 0))), (1, .int a1), (3, .int x3)] → W p l e rm_X9_drop s m args below meth c H locs 0 0 (MQ below (qI G I ad Q) args s 0 0 (fA I ad)) (F0 m 127 ls []) := by
  have hx := C.1
  have hb := C.2.1
  have hown := C.2.2.2.1
  have hts := C.2.2.2.2.1
  intro n
  induction n with
  | zero =>
    intro x3 M H locs ls hw hP hS hl
    rw [w_X9_drop_127] at hw
    exact hw.elim
  | succ n ih =>
    intro x3 M H locs ls hw hP hS hl
    rw [w_X9_drop_127] at hw
    refine lv_iload_n (pc := 127) hx hb dX9_drop_127 rfl (lv_at hl 2 rfl) ?_
    refine lv_bipush (pc := 128) (v := (32 : Int32)) hx hb dX9_drop_128 (by decide) ?_
    refine lv_iload_n (pc := 130) hx hb dX9_drop_130 rfl (lv_at hl 1 rfl) ?_
    refine lv_imul (pc := 131) hx hb dX9_drop_131 ?_
    refine lv_iconst (pc := 132) (v := (4 : Int32)) hx hb dX9_drop_132 (by decide) ?_
    refine lv_aload_n (pc := 133) hx hb dX9_drop_133 rfl (lv_at hl 0 rfl) ?_
    refine gf_717 (pc := 134) C hP h0 dX9_drop_134 ?_
    refine lv_iload_n (pc := 137) hx hb dX9_drop_137 rfl (lv_at hl 1 rfl) ?_
    refine r_ialdK (pc := 138) (n := 6) (k := a1.toNatClampNeg) C hP (cl_29_1 hC h0) (fun _ _ _ _ => rfl) hw.1 rfl dX9_drop_138 ?_
    replace hw := hw.2
    refine lv_imul (pc := 139) hx hb dX9_drop_139 ?_
    refine lv_iadd (pc := 140) hx hb dX9_drop_140 ?_
    refine lv_icmp_ge (pc := 141) (tgt := 164) hx hb dX9_drop_141 (by decide) (fun h => ?_) (fun h => ?_)
    · replace hw := if_t h hw
      refine lv_aload_n (pc := 164) hx hb dX9_drop_164 rfl (lv_at hl 0 rfl) ?_
      refine gf_717 (pc := 165) C hP h0 dX9_drop_165 ?_
      refine lv_iload_n (pc := 168) hx hb dX9_drop_168 rfl (lv_at hl 1 rfl) ?_
      refine r_ialdK (pc := 169) (n := 6) (k := a1.toNatClampNeg) C hP (cl_29_1 hC h0) (fun _ _ _ _ => rfl) hw.1 rfl dX9_drop_169 ?_
      replace hw := hw.2
      exact r_iret (pc := 170) C hP hS hw dX9_drop_170
    · replace hw := if_f h hw
      refine lv_aload_n (pc := 144) hx hb dX9_drop_144 rfl (lv_at hl 0 rfl) ?_
      refine gf_716 (pc := 145) C hP h0 dX9_drop_145 ?_
      refine lv_iload_n (pc := 148) hx hb dX9_drop_148 rfl (lv_at hl 2 rfl) ?_
      refine lv_aload_n (pc := 149) hx hb dX9_drop_149 rfl (lv_at hl 0 rfl) ?_
      refine gf_716 (pc := 150) C hP h0 dX9_drop_150 ?_
      refine lv_iload_n (pc := 153) hx hb dX9_drop_153 rfl (lv_at hl 2 rfl) ?_
      refine lv_iconst (pc := 154) (v := (4 : Int32)) hx hb dX9_drop_154 (by decide) ?_
      refine lv_iadd (pc := 155) hx hb dX9_drop_155 ?_
      refine r_ialdK (pc := 156) (n := 192) (k := (x3 + (4 : Int32)).toNatClampNeg) C hP (cl_29_0 hC h0) (fun _ _ _ _ => rfl) hw.1 rfl dX9_drop_156 ?_
      replace hw := hw.2
      refine r_iastK (pc := 157) (n := 192) (k := x3.toNatClampNeg) C hP hS (cl_29_0 hC h0) (fun _ _ _ _ => rfl) hw.1 rfl dX9_drop_157 (fun H locs hP hS => ?_)
      replace hw := hw.2
      refine lv_iinc (pc := 158) (v := x3 + 1) (lv' := [(3, .int (x3 + 1)), (0, .ref (ad (29, 0, 0, 0))), (1, .int a1)]) hx hb dX9_drop_158 hl (k := 2) rfl rfl (by decide) rfl (fun ls hl => ?_)
      refine lv_goto (pc := 161) (tgt := 127) hx hb dX9_drop_161 (by decide) ?_
      exact ih (x3 + 1) (mu M (30, 0, 0, 0) (x3.toNatClampNeg) (M.1 (30, 0, 0, 0) ((x3 + (4 : Int32)).toNatClampNeg))) _ _ _ hw hP hS (lv_sub hl [1, 2, 0] rfl)
set_option maxHeartbeats 4000000 in
set_option maxRecDepth 100000 in
theorem j_X9_drop_13 {a1 : Int32} {a2 : Int32} (C : cx p s m args meth c cX9_drop 6 (some .int) RX9 G) (hC : clo I) (h0 : I (29, 0, 0, 0)) {Q : Int32 → Mem → Prop} : ∀ (n : Nat), ∀ (x3 : Int32) (M : Mem) (H : Heap) (locs : List Loc) (ls : Array Slot), w_X9_drop_13 a1 a2 Q n x3 M → wd G I ad M H → va_S (fA I ad) s.heap H locs → lv_has ls 6 [(0, .ref (ad (29, 0, 0, 0))), (1, .int a1), (2, .int a2), (3, .int x3)] → W p l e rm_X9_drop s m args below meth c H locs 0 0 (MQ below (qI G I ad Q) args s 0 0 (fA I ad)) (F0 m 13 ls []) := by
  have hx := C.1
  have hb := C.2.1
  have hown := C.2.2.2.1
  have hts := C.2.2.2.2.1
  intro n
  induction n with
  | zero =>
    intro x3 M H locs ls hw hP hS hl
    rw [w_X9_drop_13] at hw
    exact hw.elim
  | succ n ih =>
    intro x3 M H locs ls hw hP hS hl
    rw [w_X9_drop_13] at hw
    refine lv_iload_n (pc := 13) hx hb dX9_drop_13 rfl (lv_at hl 3 rfl) ?_
    refine lv_iconst (pc := 14) (v := (4 : Int32)) hx hb dX9_drop_14 (by decide) ?_
    refine lv_icmp_ge (pc := 15) (tgt := 108) hx hb dX9_drop_15 (by decide) (fun h => ?_) (fun h => ?_)
    · replace hw := if_t h hw
      refine lv_aload_n (pc := 108) hx hb dX9_drop_108 rfl (lv_at hl 0 rfl) ?_
      refine gf_717 (pc := 109) C hP h0 dX9_drop_109 ?_
      refine lv_iload_n (pc := 112) hx hb dX9_drop_112 rfl (lv_at hl 1 rfl) ?_
      refine lv_dup2_11 (pc := 113) hx hb dX9_drop_113 rfl rfl ?_
      refine r_ialdK (pc := 114) (n := 6) (k := a1.toNatClampNeg) C hP (cl_29_1 hC h0) (fun _ _ _ _ => rfl) hw.1 rfl dX9_drop_114 ?_
      replace hw := hw.2
      refine lv_iconst (pc := 115) (v := (1 : Int32)) hx hb dX9_drop_115 (by decide) ?_
      refine lv_isub (pc := 116) hx hb dX9_drop_116 ?_
      refine r_iastK (pc := 117) (n := 6) (k := a1.toNatClampNeg) C hP hS (cl_29_1 hC h0) (fun _ _ _ _ => rfl) hw.1 rfl dX9_drop_117 (fun H locs hP hS => ?_)
      replace hw := hw.2
      refine lv_bipush (pc := 118) (v := (32 : Int32)) hx hb dX9_drop_118 (by decide) ?_
      refine lv_iload_n (pc := 120) hx hb dX9_drop_120 rfl (lv_at hl 1 rfl) ?_
      refine lv_imul (pc := 121) hx hb dX9_drop_121 ?_
      refine lv_iconst (pc := 122) (v := (4 : Int32)) hx hb dX9_drop_122 (by decide) ?_
      refine lv_iload_n (pc := 123) hx hb dX9_drop_123 rfl (lv_at hl 2 rfl) ?_
      refine lv_imul (pc := 124) hx hb dX9_drop_124 ?_
      refine lv_iadd (pc := 125) hx hb dX9_drop_125 ?_
      refine lv_topi (fun x3_126 ex3_126 => ?_)
      replace hw := hw x3_126 ex3_126
      refine lv_istore_n (pc := 126) (lv' := [(3, .int x3_126), (0, .ref (ad (29, 0, 0, 0))), (1, .int a1), (2, .int a2)]) hx hb dX9_drop_126 rfl hl (by decide) rfl (fun ls hl => ?_)
      obtain ⟨n0, hw⟩ := hw
      exact j_X9_drop_127 C hC h0 n0 x3_126 (mu M (31, 0, 0, 0) (a1.toNatClampNeg) ((M.1 (31, 0, 0, 0) a1.toNatClampNeg) - (1 : Int32))) _ _ _ hw hP hS (lv_sub hl [1, 2, 0] rfl)
    · replace hw := if_f h hw
      refine lv_iconst (pc := 18) (v := (4 : Int32)) hx hb dX9_drop_18 (by decide) ?_
      refine lv_iload_n (pc := 19) hx hb dX9_drop_19 rfl (lv_at hl 1 rfl) ?_
      refine lv_imul (pc := 20) hx hb dX9_drop_20 ?_
      refine lv_iload_n (pc := 21) hx hb dX9_drop_21 rfl (lv_at hl 3 rfl) ?_
      refine lv_iadd (pc := 22) hx hb dX9_drop_22 ?_
      refine lv_topi (fun x4_23 ex4_23 => ?_)
      replace hw := hw x4_23 ex4_23
      refine lv_istore (pc := 23) (lv' := [(4, .int x4_23), (0, .ref (ad (29, 0, 0, 0))), (1, .int a1), (2, .int a2), (3, .int x3)]) hx hb dX9_drop_23 hl (by decide) rfl (fun ls hl => ?_)
      refine lv_aload_n (pc := 25) hx hb dX9_drop_25 rfl (lv_at hl 1 rfl) ?_
      refine lv_iload_n (pc := 26) hx hb dX9_drop_26 rfl (lv_at hl 2 rfl) ?_
      refine lv_iload_n (pc := 27) hx hb dX9_drop_27 rfl (lv_at hl 3 rfl) ?_
      refine lv_iload_n (pc := 28) hx hb dX9_drop_28 rfl (lv_at hl 4 rfl) ?_
      refine r_cVI (pc := 29) (rest := []) (As := [.int a1, .int a2, .int x3]) C hl.1 hP hS (k_X9_at l G hC h0 hw) h0 rfl rfl mw_798 mw_800 mw_38 mw_65 mw_801 ⟨rfl, rfl⟩ hd_X9_at rfl rfl ⟨Nat.le_of_ble_eq_true rfl, Nat.le_of_ble_eq_true rfl⟩ (Nat.le_of_ble_eq_true rfl) ⟨Nat.zero_le _, Nat.zero_le _⟩ dX9_drop_29 (fun r29 M29 H locs hw hP hS => ?_)
      refine lv_istore (pc := 32) (lv' := [(5, .int r29), (4, .int x4_23), (0, .ref (ad (29, 0, 0, 0))), (1, .int a1), (2, .int a2), (3, .int x3)]) hx hb dX9_drop_32 hl (by decide) rfl (fun ls hl => ?_)
      refine lv_iload (pc := 34) hx hb dX9_drop_34 (lv_at hl 0 rfl) ?_
      refine lv_sipush (pc := 36) (v := (1000 : Int32)) hx hb dX9_drop_36 (by decide) ?_
      refine lv_icmp_ne (pc := 39) (tgt := 61) hx hb dX9_drop_39 (by decide) (fun h => ?_) (fun h => ?_)
      · replace hw := if_f h hw
        refine lv_aload_n (pc := 61) hx hb dX9_drop_61 rfl (lv_at hl 2 rfl) ?_
        refine gf_718 (pc := 62) C hP h0 dX9_drop_62 ?_
        refine lv_bipush (pc := 65) (v := (12 : Int32)) hx hb dX9_drop_65 (by decide) ?_
        refine lv_iload (pc := 67) hx hb dX9_drop_67 (lv_at hl 1 rfl) ?_
        refine lv_imul (pc := 69) hx hb dX9_drop_69 ?_
        refine lv_iconst (pc := 70) (v := (3 : Int32)) hx hb dX9_drop_70 (by decide) ?_
        refine lv_iadd (pc := 71) hx hb dX9_drop_71 ?_
        refine r_ialdK (pc := 72) (n := 288) (k := (((12 : Int32) * x4_23) + (3 : Int32)).toNatClampNeg) C hP (cl_29_2 hC h0) (fun _ _ _ _ => rfl) hw.1 rfl dX9_drop_72 ?_
        replace hw := hw.2
        refine lv_if_lt (pc := 73) (tgt := 102) hx hb dX9_drop_73 (by decide) (fun h => ?_) (fun h => ?_)
        · replace hw := if_t h hw
          refine lv_iinc (pc := 102) (v := x3 + 1) (lv' := [(3, .int (x3 + 1)), (5, .int r29), (4, .int x4_23), (0, .ref (ad (29, 0, 0, 0))), (1, .int a1), (2, .int a2)]) hx hb dX9_drop_102 hl (k := 5) rfl rfl (by decide) rfl (fun ls hl => ?_)
          refine lv_goto (pc := 105) (tgt := 13) hx hb dX9_drop_105 (by decide) ?_
          exact ih (x3 + 1) M29 _ _ _ hw hP hS (lv_sub hl [3, 4, 5, 0] rfl)
        · replace hw := if_f h hw
          refine lv_aload_n (pc := 76) hx hb dX9_drop_76 rfl (lv_at hl 2 rfl) ?_
          refine gf_718 (pc := 77) C hP h0 dX9_drop_77 ?_
          refine lv_bipush (pc := 80) (v := (12 : Int32)) hx hb dX9_drop_80 (by decide) ?_
          refine lv_iload (pc := 82) hx hb dX9_drop_82 (lv_at hl 1 rfl) ?_
          refine lv_imul (pc := 84) hx hb dX9_drop_84 ?_
          refine lv_bipush (pc := 85) (v := (8 : Int32)) hx hb dX9_drop_85 (by decide) ?_
          refine lv_iadd (pc := 87) hx hb dX9_drop_87 ?_
          refine lv_aload_n (pc := 88) hx hb dX9_drop_88 rfl (lv_at hl 2 rfl) ?_
          refine lv_iload (pc := 89) hx hb dX9_drop_89 (lv_at hl 1 rfl) ?_
          refine lv_iload (pc := 91) hx hb dX9_drop_91 (lv_at hl 0 rfl) ?_
          refine r_cVI (pc := 93) (rest := [.int (((12 : Int32) * x4_23) + (8 : Int32)), .ref (ad (32, 0, 0, 0))]) (As := [.int x4_23, .int r29]) C hl.1 hP hS (k_X9_placeOf l G hC h0 hw) h0 rfl rfl mw_786 mw_788 mw_36 mw_65 mw_789 ⟨rfl, rfl⟩ hd_X9_placeOf rfl rfl ⟨Nat.le_of_ble_eq_true rfl, Nat.le_of_ble_eq_true rfl⟩ (Nat.le_of_ble_eq_true rfl) ⟨Nat.zero_le _, Nat.zero_le _⟩ dX9_drop_93 (fun r93 M93 H locs hw hP hS => ?_)
          refine lv_iadd (pc := 96) hx hb dX9_drop_96 ?_
          refine lv_dup2_11 (pc := 97) hx hb dX9_drop_97 rfl rfl ?_
          refine r_ialdK (pc := 98) (n := 288) (k := ((((12 : Int32) * x4_23) + (8 : Int32)) + r93).toNatClampNeg) C hP (cl_29_2 hC h0) (fun _ _ _ _ => rfl) hw.1 rfl dX9_drop_98 ?_
          replace hw := hw.2
          refine lv_iconst (pc := 99) (v := (1 : Int32)) hx hb dX9_drop_99 (by decide) ?_
          refine lv_isub (pc := 100) hx hb dX9_drop_100 ?_
          refine r_iastK (pc := 101) (n := 288) (k := ((((12 : Int32) * x4_23) + (8 : Int32)) + r93).toNatClampNeg) C hP hS (cl_29_2 hC h0) (fun _ _ _ _ => rfl) hw.1 rfl dX9_drop_101 (fun H locs hP hS => ?_)
          replace hw := hw.2
          obtain ⟨M101, eM101⟩ : ∃ z : Mem, z = (mu M93 (32, 0, 0, 0) (((((12 : Int32) * x4_23) + (8 : Int32)) + r93).toNatClampNeg) ((M93.1 (32, 0, 0, 0) (((((12 : Int32) * x4_23) + (8 : Int32)) + r93).toNatClampNeg)) - (1 : Int32))) := ⟨_, rfl⟩
          replace hP : wd G I ad M101 H := by rw [eM101]; exact hP
          replace hw := hw M101 eM101
          refine lv_iinc (pc := 102) (v := x3 + 1) (lv' := [(3, .int (x3 + 1)), (5, .int r29), (4, .int x4_23), (0, .ref (ad (29, 0, 0, 0))), (1, .int a1), (2, .int a2)]) hx hb dX9_drop_102 hl (k := 5) rfl rfl (by decide) rfl (fun ls hl => ?_)
          refine lv_goto (pc := 105) (tgt := 13) hx hb dX9_drop_105 (by decide) ?_
          exact ih (x3 + 1) M101 _ _ _ hw hP hS (lv_sub hl [3, 4, 5, 0] rfl)
      · replace hw := if_t h hw
        refine lv_aload_n (pc := 42) hx hb dX9_drop_42 rfl (lv_at hl 2 rfl) ?_
        refine gf_718 (pc := 43) C hP h0 dX9_drop_43 ?_
        refine lv_bipush (pc := 46) (v := (12 : Int32)) hx hb dX9_drop_46 (by decide) ?_
        refine lv_iload (pc := 48) hx hb dX9_drop_48 (lv_at hl 1 rfl) ?_
        refine lv_imul (pc := 50) hx hb dX9_drop_50 ?_
        refine lv_iconst (pc := 51) (v := (2 : Int32)) hx hb dX9_drop_51 (by decide) ?_
        refine lv_iadd (pc := 52) hx hb dX9_drop_52 ?_
        refine lv_dup2_11 (pc := 53) hx hb dX9_drop_53 rfl rfl ?_
        refine r_ialdK (pc := 54) (n := 288) (k := (((12 : Int32) * x4_23) + (2 : Int32)).toNatClampNeg) C hP (cl_29_2 hC h0) (fun _ _ _ _ => rfl) hw.1 rfl dX9_drop_54 ?_
        replace hw := hw.2
        refine lv_iconst (pc := 55) (v := (1 : Int32)) hx hb dX9_drop_55 (by decide) ?_
        refine lv_isub (pc := 56) hx hb dX9_drop_56 ?_
        refine r_iastK (pc := 57) (n := 288) (k := (((12 : Int32) * x4_23) + (2 : Int32)).toNatClampNeg) C hP hS (cl_29_2 hC h0) (fun _ _ _ _ => rfl) hw.1 rfl dX9_drop_57 (fun H locs hP hS => ?_)
        replace hw := hw.2
        obtain ⟨M57, eM57⟩ : ∃ z : Mem, z = (mu M29 (32, 0, 0, 0) ((((12 : Int32) * x4_23) + (2 : Int32)).toNatClampNeg) ((M29.1 (32, 0, 0, 0) ((((12 : Int32) * x4_23) + (2 : Int32)).toNatClampNeg)) - (1 : Int32))) := ⟨_, rfl⟩
        replace hP : wd G I ad M57 H := by rw [eM57]; exact hP
        replace hw := hw M57 eM57
        refine lv_goto (pc := 58) (tgt := 102) hx hb dX9_drop_58 (by decide) ?_
        refine lv_iinc (pc := 102) (v := x3 + 1) (lv' := [(3, .int (x3 + 1)), (5, .int r29), (4, .int x4_23), (0, .ref (ad (29, 0, 0, 0))), (1, .int a1), (2, .int a2)]) hx hb dX9_drop_102 hl (k := 5) rfl rfl (by decide) rfl (fun ls hl => ?_)
        refine lv_goto (pc := 105) (tgt := 13) hx hb dX9_drop_105 (by decide) ?_
        exact ih (x3 + 1) M57 _ _ _ hw hP hS (lv_sub hl [3, 4, 5, 0] rfl)
set_option maxHeartbeats 4000000 in
set_option maxRecDepth 100000 in
theorem j_X9_drop_0 {a1 : Int32} {a2 : Int32} (C : cx p s m args meth c cX9_drop 6 (some .int) RX9 G) (hC : clo I) (h0 : I (29, 0, 0, 0)) {Q : Int32 → Mem → Prop} : ∀ (M : Mem) (H : Heap) (locs : List Loc) (ls : Array Slot), w_X9_drop a1 a2 Q M → wd G I ad M H → va_S (fA I ad) s.heap H locs → lv_has ls 6 [(0, .ref (ad (29, 0, 0, 0))), (1, .int a1), (2, .int a2)] → W p l e rm_X9_drop s m args below meth c H locs 0 0 (MQ below (qI G I ad Q) args s 0 0 (fA I ad)) (F0 m 0 ls []) := by
  have hx := C.1
  have hb := C.2.1
  have hown := C.2.2.2.1
  have hts := C.2.2.2.2.1
  intro M H locs ls hw hP hS hl
  unfold w_X9_drop at hw
  refine lv_aload_n (pc := 0) hx hb dX9_drop_0 rfl (lv_at hl 0 rfl) ?_
  refine lv_iload_n (pc := 1) hx hb dX9_drop_1 rfl (lv_at hl 1 rfl) ?_
  refine lv_iload_n (pc := 2) hx hb dX9_drop_2 rfl (lv_at hl 2 rfl) ?_
  refine r_cVI (pc := 3) (rest := []) (As := [.int a1, .int a2]) C hl.1 hP hS (k_X9_isRow l G hC h0 hw) h0 rfl rfl mw_794 mw_796 mw_37 mw_65 mw_797 ⟨rfl, rfl⟩ hd_X9_isRow rfl rfl ⟨Nat.le_of_ble_eq_true rfl, Nat.le_of_ble_eq_true rfl⟩ (Nat.le_of_ble_eq_true rfl) ⟨Nat.zero_le _, Nat.zero_le _⟩ dX9_drop_3 (fun r3 M3 H locs hw hP hS => ?_)
  refine lv_if_ne (pc := 6) (tgt := 11) hx hb dX9_drop_6 (by decide) (fun h => ?_) (fun h => ?_)
  · replace hw := if_f h hw
    refine lv_iconst (pc := 11) (v := (0 : Int32)) hx hb dX9_drop_11 (by decide) ?_
    refine lv_istore_n (pc := 12) (lv' := [(3, .int (0 : Int32)), (0, .ref (ad (29, 0, 0, 0))), (1, .int a1), (2, .int a2)]) hx hb dX9_drop_12 rfl hl (by decide) rfl (fun ls hl => ?_)
    obtain ⟨n0, hw⟩ := hw
    exact j_X9_drop_13 C hC h0 n0 (0 : Int32) M3 _ _ _ hw hP hS (lv_sub hl [1, 2, 3, 0] rfl)
  · replace hw := if_t h hw
    refine lv_iconst (pc := 9) (v := (-1 : Int32)) hx hb dX9_drop_9 (by decide) ?_
    exact r_iret (pc := 10) C hP hS hw dX9_drop_10
end
theorem k_X9_drop (l : Launch) (G : GG) {I : ix → Prop} {ad : ix → Nat} (hC : clo I) {a1 : Int32} {a2 : Int32} (h0 : I (29, 0, 0, 0)) {Q : Int32 → Mem → Prop} {M : Mem} (hw : w_X9_drop a1 a2 Q M) : Met l yX9_drop (wW yX9_drop cX9_drop 6 (some .int)) rm_X9_drop (va_Pc [.ref (ad (29, 0, 0, 0)), .int a1, .int a2] (fun U => wd G I ad M U.heap ∧ wK G U)) (qI G I ad Q) 0 0 (fA I ad) := met_of (by decide +kernel) (Nat.le_of_ble_eq_true rfl) (fun p e s m below meth c C hP hS ls hl => j_X9_drop_0 C hC h0 _ _ _ _ hw hP hS hl)
section
variable {p : Program} {l : Launch} {e : Env} {s : State} {m : MethodId} {args : Array Value} {below : List Frame} {meth : Method} {c : Code} 
variable  {G : GG} {I : ix → Prop} {ad : ix → Nat}
set_option maxHeartbeats 4000000 in
set_option maxRecDepth 100000 in
theorem j_X9_makeAnew_11 {a1 : Int32} {a2 : Int32} (C : cx p s m args meth c cX9_makeAnew 4 none RX9 G) (hC : clo I) (h0 : I (29, 0, 0, 0)) {Q : Mem → Prop} : ∀ (n : Nat), ∀ (x3 : Int32) (M : Mem) (H : Heap) (locs : List Loc) (ls : Array Slot), w_X9_makeAnew_11 a1 a2 Q n x3 M → wd G I ad M H → va_S (fA I ad) s.heap H locs → lv_has ls 4 [(0, .ref (ad (29, 0, 0, 0))), (1, .int a1), (2, .int a2), (3, .int x3)] → W p l e rm_X9_makeAnew s m args below meth c H locs 0 0 (MQ below (qV G I ad Q) args s 0 0 (fA I ad)) (F0 m 11 ls []) := by
  have hx := C.1
  have hb := C.2.1
  have hown := C.2.2.2.1
  have hts := C.2.2.2.2.1
  intro n
  induction n with
  | zero =>
    intro x3 M H locs ls hw hP hS hl
    rw [w_X9_makeAnew_11] at hw
    exact hw.elim
  | succ n ih =>
    intro x3 M H locs ls hw hP hS hl
    rw [w_X9_makeAnew_11] at hw
    refine lv_iload_n (pc := 11) hx hb dX9_makeAnew_11 rfl (lv_at hl 3 rfl) ?_
    refine lv_aload_n (pc := 12) hx hb dX9_makeAnew_12 rfl (lv_at hl 0 rfl) ?_
    refine gf_717 (pc := 13) C hP h0 dX9_makeAnew_13 ?_
    refine lv_iload_n (pc := 16) hx hb dX9_makeAnew_16 rfl (lv_at hl 1 rfl) ?_
    refine r_ialdK (pc := 17) (n := 6) (k := a1.toNatClampNeg) C hP (cl_29_1 hC h0) (fun _ _ _ _ => rfl) hw.1 rfl dX9_makeAnew_17 ?_
    replace hw := hw.2
    refine lv_icmp_ge (pc := 18) (tgt := 43) hx hb dX9_makeAnew_18 (by decide) (fun h => ?_) (fun h => ?_)
    · replace hw := if_t h hw
      exact r_vret (pc := 43) C hP hS hw dX9_makeAnew_43
    · replace hw := if_f h hw
      refine lv_aload_n (pc := 21) hx hb dX9_makeAnew_21 rfl (lv_at hl 0 rfl) ?_
      refine lv_iconst (pc := 22) (v := (4 : Int32)) hx hb dX9_makeAnew_22 (by decide) ?_
      refine lv_iload_n (pc := 23) hx hb dX9_makeAnew_23 rfl (lv_at hl 1 rfl) ?_
      refine lv_imul (pc := 24) hx hb dX9_makeAnew_24 ?_
      refine lv_iload_n (pc := 25) hx hb dX9_makeAnew_25 rfl (lv_at hl 2 rfl) ?_
      refine lv_iadd (pc := 26) hx hb dX9_makeAnew_26 ?_
      refine lv_aload_n (pc := 27) hx hb dX9_makeAnew_27 rfl (lv_at hl 0 rfl) ?_
      refine lv_iload_n (pc := 28) hx hb dX9_makeAnew_28 rfl (lv_at hl 1 rfl) ?_
      refine lv_iload_n (pc := 29) hx hb dX9_makeAnew_29 rfl (lv_at hl 3 rfl) ?_
      refine lv_iload_n (pc := 30) hx hb dX9_makeAnew_30 rfl (lv_at hl 2 rfl) ?_
      refine r_cVI (pc := 31) (rest := [.int (((4 : Int32) * a1) + a2), .ref (ad (29, 0, 0, 0))]) (As := [.int a1, .int x3, .int a2]) C hl.1 hP hS (k_X9_at l G hC h0 hw) h0 rfl rfl mw_798 mw_800 mw_38 mw_65 mw_801 ⟨rfl, rfl⟩ hd_X9_at rfl rfl ⟨Nat.le_of_ble_eq_true rfl, Nat.le_of_ble_eq_true rfl⟩ (Nat.le_of_ble_eq_true rfl) ⟨Nat.zero_le _, Nat.zero_le _⟩ dX9_makeAnew_31 (fun r31 M31 H locs hw hP hS => ?_)
      refine r_cVV (pc := 34) (rest := []) (As := [.int (((4 : Int32) * a1) + a2), .int r31]) C hl.1 hP hS (k_X9_come l G hC h0 hw) h0 rfl rfl mw_782 mw_784 mw_35 mw_65 mw_785 ⟨rfl, rfl⟩ hd_X9_come rfl rfl ⟨Nat.le_of_ble_eq_true rfl, Nat.le_of_ble_eq_true rfl⟩ (Nat.le_of_ble_eq_true rfl) ⟨Nat.zero_le _, Nat.zero_le _⟩ dX9_makeAnew_34 (fun M34 H locs hw hP hS => ?_)
      refine lv_iinc (pc := 37) (v := x3 + 1) (lv' := [(3, .int (x3 + 1)), (0, .ref (ad (29, 0, 0, 0))), (1, .int a1), (2, .int a2)]) hx hb dX9_makeAnew_37 hl (k := 3) rfl rfl (by decide) rfl (fun ls hl => ?_)
      refine lv_goto (pc := 40) (tgt := 11) hx hb dX9_makeAnew_40 (by decide) ?_
      exact ih (x3 + 1) M34 _ _ _ hw hP hS (lv_sub hl [1, 2, 3, 0] rfl)
set_option maxHeartbeats 4000000 in
set_option maxRecDepth 100000 in
theorem j_X9_makeAnew_0 {a1 : Int32} {a2 : Int32} (C : cx p s m args meth c cX9_makeAnew 4 none RX9 G) (hC : clo I) (h0 : I (29, 0, 0, 0)) {Q : Mem → Prop} : ∀ (M : Mem) (H : Heap) (locs : List Loc) (ls : Array Slot), w_X9_makeAnew a1 a2 Q M → wd G I ad M H → va_S (fA I ad) s.heap H locs → lv_has ls 4 [(0, .ref (ad (29, 0, 0, 0))), (1, .int a1), (2, .int a2)] → W p l e rm_X9_makeAnew s m args below meth c H locs 0 0 (MQ below (qV G I ad Q) args s 0 0 (fA I ad)) (F0 m 0 ls []) := by
  have hx := C.1
  have hb := C.2.1
  have hown := C.2.2.2.1
  have hts := C.2.2.2.2.1
  intro M H locs ls hw hP hS hl
  unfold w_X9_makeAnew at hw
  refine lv_aload_n (pc := 0) hx hb dX9_makeAnew_0 rfl (lv_at hl 0 rfl) ?_
  refine lv_iconst (pc := 1) (v := (4 : Int32)) hx hb dX9_makeAnew_1 (by decide) ?_
  refine lv_iload_n (pc := 2) hx hb dX9_makeAnew_2 rfl (lv_at hl 1 rfl) ?_
  refine lv_imul (pc := 3) hx hb dX9_makeAnew_3 ?_
  refine lv_iload_n (pc := 4) hx hb dX9_makeAnew_4 rfl (lv_at hl 2 rfl) ?_
  refine lv_iadd (pc := 5) hx hb dX9_makeAnew_5 ?_
  refine r_cVV (pc := 6) (rest := []) (As := [.int (((4 : Int32) * a1) + a2)]) C hl.1 hP hS (k_X9_clear l G hC h0 hw) h0 rfl rfl mw_711 mw_713 mw_34 mw_65 mw_714 ⟨rfl, rfl⟩ hd_X9_clear rfl rfl ⟨Nat.le_of_ble_eq_true rfl, Nat.le_of_ble_eq_true rfl⟩ (Nat.le_of_ble_eq_true rfl) ⟨Nat.zero_le _, Nat.zero_le _⟩ dX9_makeAnew_6 (fun M6 H locs hw hP hS => ?_)
  refine lv_iconst (pc := 9) (v := (0 : Int32)) hx hb dX9_makeAnew_9 (by decide) ?_
  refine lv_istore_n (pc := 10) (lv' := [(3, .int (0 : Int32)), (0, .ref (ad (29, 0, 0, 0))), (1, .int a1), (2, .int a2)]) hx hb dX9_makeAnew_10 rfl hl (by decide) rfl (fun ls hl => ?_)
  obtain ⟨n0, hw⟩ := hw
  exact j_X9_makeAnew_11 C hC h0 n0 (0 : Int32) M6 _ _ _ hw hP hS (lv_sub hl [1, 2, 3, 0] rfl)
end
theorem k_X9_makeAnew (l : Launch) (G : GG) {I : ix → Prop} {ad : ix → Nat} (hC : clo I) {a1 : Int32} {a2 : Int32} (h0 : I (29, 0, 0, 0)) {Q : Mem → Prop} {M : Mem} (hw : w_X9_makeAnew a1 a2 Q M) : Met l yX9_makeAnew (wW yX9_makeAnew cX9_makeAnew 4 none) rm_X9_makeAnew (va_Pc [.ref (ad (29, 0, 0, 0)), .int a1, .int a2] (fun U => wd G I ad M U.heap ∧ wK G U)) (qV G I ad Q) 0 0 (fA I ad) := met_of (by decide +kernel) (Nat.le_of_ble_eq_true rfl) (fun p e s m below meth c C hP hS ls hl => j_X9_makeAnew_0 C hC h0 _ _ _ _ hw hP hS hl)
section
variable {p : Program} {l : Launch} {e : Env} {s : State} {m : MethodId} {args : Array Value} {below : List Frame} {meth : Method} {c : Code} 
variable  {G : GG} {I : ix → Prop} {ad : ix → Nat}
set_option maxHeartbeats 4000000 in
set_option maxRecDepth 100000 in
theorem j_X9_isStale_159 {a1 : Int32} {a2 : Int32} (C : cx p s m args meth c cX9_isStale 6 (some .boolean) RX9 G) (hC : clo I) (h0 : I (29, 0, 0, 0)) {Q : Int32 → Mem → Prop} : ∀ (n : Nat), ∀ (x3 : Int32) (x4 : Int32) (x5 : Int32) (M : Mem) (H : Heap) (locs : List Loc) (ls : Array Slot), w_X9_isStale_159 a1 a2 Q n x3 x4 x5 M → wd G I ad M H → va_S (fA I ad) s.heap H locs → lv_has ls 6 [(0, .ref (ad (29, 0, 0, 0))), (3, .int x3), (4, .int x4), (5, .int x5)] → W p l e rm_X9_isStale s m args below meth c H locs 0 0 (MQ below (qI G I ad Q) args s 0 0 (fA I ad)) (F0 m 159 ls []) := by
  have hx := C.1
  have hb := C.2.1
  have hown := C.2.2.2.1
  have hts := C.2.2.2.2.1
  intro n
  induction n with
  | zero =>
    intro x3 x4 x5 M H locs ls hw hP hS hl
    rw [w_X9_isStale_159] at hw
    exact hw.elim
  | succ n ih =>
    intro x3 x4 x5 M H locs ls hw hP hS hl
    rw [w_X9_isStale_159] at hw
    refine lv_iload (pc := 159) hx hb dX9_isStale_159 (lv_at hl 3 rfl) ?_
    refine lv_bipush (pc := 161) (v := (12 : Int32)) hx hb dX9_isStale_161 (by decide) ?_
    refine lv_icmp_ge (pc := 163) (tgt := 188) hx hb dX9_isStale_163 (by decide) (fun h => ?_) (fun h => ?_)
    · replace hw := if_t h hw
      refine lv_iload (pc := 188) hx hb dX9_isStale_188 (lv_at hl 2 rfl) ?_
      exact r_zret (pc := 190) C hP hS hw.1 hw.2 dX9_isStale_190
    · replace hw := if_f h hw
      refine lv_aload_n (pc := 166) hx hb dX9_isStale_166 rfl (lv_at hl 0 rfl) ?_
      refine gf_718 (pc := 167) C hP h0 dX9_isStale_167 ?_
      refine lv_iload_n (pc := 170) hx hb dX9_isStale_170 rfl (lv_at hl 1 rfl) ?_
      refine lv_iload (pc := 171) hx hb dX9_isStale_171 (lv_at hl 3 rfl) ?_
      refine lv_iadd (pc := 173) hx hb dX9_isStale_173 ?_
      refine lv_aload_n (pc := 174) hx hb dX9_isStale_174 rfl (lv_at hl 0 rfl) ?_
      refine gf_719 (pc := 175) C hP h0 dX9_isStale_175 ?_
      refine lv_iload (pc := 178) hx hb dX9_isStale_178 (lv_at hl 3 rfl) ?_
      refine r_ialdK (pc := 180) (n := 12) (k := x5.toNatClampNeg) C hP (cl_29_3 hC h0) (fun _ _ _ _ => rfl) hw.1 rfl dX9_isStale_180 ?_
      replace hw := hw.2
      refine r_iastK (pc := 181) (n := 288) (k := (x3 + x5).toNatClampNeg) C hP hS (cl_29_2 hC h0) (fun _ _ _ _ => rfl) hw.1 rfl dX9_isStale_181 (fun H locs hP hS => ?_)
      replace hw := hw.2
      refine lv_iinc (pc := 182) (v := x5 + 1) (lv' := [(5, .int (x5 + 1)), (0, .ref (ad (29, 0, 0, 0))), (3, .int x3), (4, .int x4)]) hx hb dX9_isStale_182 hl (k := 3) rfl rfl (by decide) rfl (fun ls hl => ?_)
      refine lv_goto (pc := 185) (tgt := 159) hx hb dX9_isStale_185 (by decide) ?_
      exact ih x3 x4 (x5 + 1) (mu M (32, 0, 0, 0) ((x3 + x5).toNatClampNeg) (M.1 (33, 0, 0, 0) x5.toNatClampNeg)) _ _ _ hw hP hS (lv_sub hl [1, 2, 3, 0] rfl)
set_option maxHeartbeats 4000000 in
set_option maxRecDepth 100000 in
theorem j_X9_isStale_106 {a1 : Int32} {a2 : Int32} (C : cx p s m args meth c cX9_isStale 6 (some .boolean) RX9 G) (hC : clo I) (h0 : I (29, 0, 0, 0)) {Q : Int32 → Mem → Prop} : ∀ (n : Nat), ∀ (x3 : Int32) (x4 : Int32) (x5 : Int32) (M : Mem) (H : Heap) (locs : List Loc) (ls : Array Slot), w_X9_isStale_106 a1 a2 Q n x3 x4 x5 M → wd G I ad M H → va_S (fA I ad) s.heap H locs → lv_has ls 6 [(0, .ref (ad (29, 0, 0, 0))), (1, .int a1), (2, .int a2), (3, .int x3), (4, .int x4), (5, .int x5)] → W p l e rm_X9_isStale s m args below meth c H locs 0 0 (MQ below (qI G I ad Q) args s 0 0 (fA I ad)) (F0 m 106 ls []) := by
  have hx := C.1
  have hb := C.2.1
  have hown := C.2.2.2.1
  have hts := C.2.2.2.2.1
  intro n
  induction n with
  | zero =>
    intro x3 x4 x5 M H locs ls hw hP hS hl
    rw [w_X9_isStale_106] at hw
    exact hw.elim
  | succ n ih =>
    intro x3 x4 x5 M H locs ls hw hP hS hl
    rw [w_X9_isStale_106] at hw
    refine lv_iload (pc := 106) hx hb dX9_isStale_106 (lv_at hl 5 rfl) ?_
    refine lv_aload_n (pc := 108) hx hb dX9_isStale_108 rfl (lv_at hl 0 rfl) ?_
    refine gf_719 (pc := 109) C hP h0 dX9_isStale_109 ?_
    refine lv_iconst (pc := 112) (v := (3 : Int32)) hx hb dX9_isStale_112 (by decide) ?_
    refine r_ialdK (pc := 113) (n := 12) (k := 3) C hP (cl_29_3 hC h0) (fun _ _ _ _ => rfl) (vpc (by decide)) (by decide) dX9_isStale_113 ?_
    refine lv_icmp_ge (pc := 114) (tgt := 156) hx hb dX9_isStale_114 (by decide) (fun h => ?_) (fun h => ?_)
    · replace hw := if_t h hw
      refine lv_iconst (pc := 156) (v := (0 : Int32)) hx hb dX9_isStale_156 (by decide) ?_
      refine lv_istore (pc := 157) (lv' := [(5, .int (0 : Int32)), (0, .ref (ad (29, 0, 0, 0))), (1, .int a1), (2, .int a2), (3, .int x3), (4, .int x4)]) hx hb dX9_isStale_157 hl (by decide) rfl (fun ls hl => ?_)
      obtain ⟨n0, hw⟩ := hw
      exact j_X9_isStale_159 C hC h0 n0 x3 x4 (0 : Int32) M _ _ _ hw hP hS (lv_sub hl [1, 4, 5, 0] rfl)
    · replace hw := if_f h hw
      refine lv_iload (pc := 117) hx hb dX9_isStale_117 (lv_at hl 4 rfl) ?_
      refine lv_if_ne (pc := 119) (tgt := 156) hx hb dX9_isStale_119 (by decide) (fun h => ?_) (fun h => ?_)
      · replace hw := if_f h hw
        refine lv_iconst (pc := 156) (v := (0 : Int32)) hx hb dX9_isStale_156 (by decide) ?_
        refine lv_istore (pc := 157) (lv' := [(5, .int (0 : Int32)), (0, .ref (ad (29, 0, 0, 0))), (1, .int a1), (2, .int a2), (3, .int x3), (4, .int x4)]) hx hb dX9_isStale_157 hl (by decide) rfl (fun ls hl => ?_)
        obtain ⟨n0, hw⟩ := hw
        exact j_X9_isStale_159 C hC h0 n0 x3 x4 (0 : Int32) M _ _ _ hw hP hS (lv_sub hl [1, 4, 5, 0] rfl)
      · replace hw := if_t h hw
        refine lv_aload_n (pc := 122) hx hb dX9_isStale_122 rfl (lv_at hl 0 rfl) ?_
        refine lv_iconst (pc := 123) (v := (4 : Int32)) hx hb dX9_isStale_123 (by decide) ?_
        refine lv_iload_n (pc := 124) hx hb dX9_isStale_124 rfl (lv_at hl 1 rfl) ?_
        refine lv_imul (pc := 125) hx hb dX9_isStale_125 ?_
        refine lv_iload_n (pc := 126) hx hb dX9_isStale_126 rfl (lv_at hl 2 rfl) ?_
        refine lv_iadd (pc := 127) hx hb dX9_isStale_127 ?_
        refine lv_aload_n (pc := 128) hx hb dX9_isStale_128 rfl (lv_at hl 0 rfl) ?_
        refine gf_719 (pc := 129) C hP h0 dX9_isStale_129 ?_
        refine lv_iconst (pc := 132) (v := (4 : Int32)) hx hb dX9_isStale_132 (by decide) ?_
        refine lv_iload (pc := 133) hx hb dX9_isStale_133 (lv_at hl 5 rfl) ?_
        refine lv_iadd (pc := 135) hx hb dX9_isStale_135 ?_
        refine r_ialdK (pc := 136) (n := 12) (k := ((4 : Int32) + x5).toNatClampNeg) C hP (cl_29_3 hC h0) (fun _ _ _ _ => rfl) hw.1 rfl dX9_isStale_136 ?_
        replace hw := hw.2
        refine r_cVI (pc := 137) (rest := []) (As := [.int (((4 : Int32) * a1) + a2), .int (M.1 (33, 0, 0, 0) (((4 : Int32) + x5).toNatClampNeg))]) C hl.1 hP hS (k_X9_placeOf l G hC h0 hw) h0 rfl rfl mw_786 mw_788 mw_36 mw_65 mw_789 ⟨rfl, rfl⟩ hd_X9_placeOf rfl rfl ⟨Nat.le_of_ble_eq_true rfl, Nat.le_of_ble_eq_true rfl⟩ (Nat.le_of_ble_eq_true rfl) ⟨Nat.zero_le _, Nat.zero_le _⟩ dX9_isStale_137 (fun r137 M137 H locs hw hP hS => ?_)
        refine lv_if_ge (pc := 140) (tgt := 147) hx hb dX9_isStale_140 (by decide) (fun h => ?_) (fun h => ?_)
        · replace hw := if_t h hw
          refine lv_iconst (pc := 147) (v := (0 : Int32)) hx hb dX9_isStale_147 (by decide) ?_
          refine lv_istore (pc := 148) (lv' := [(4, .int (0 : Int32)), (0, .ref (ad (29, 0, 0, 0))), (1, .int a1), (2, .int a2), (3, .int x3), (5, .int x5)]) hx hb dX9_isStale_148 hl (by decide) rfl (fun ls hl => ?_)
          refine lv_iinc (pc := 150) (v := x5 + 1) (lv' := [(5, .int (x5 + 1)), (4, .int (0 : Int32)), (0, .ref (ad (29, 0, 0, 0))), (1, .int a1), (2, .int a2), (3, .int x3)]) hx hb dX9_isStale_150 hl (k := 5) rfl rfl (by decide) rfl (fun ls hl => ?_)
          refine lv_goto (pc := 153) (tgt := 106) hx hb dX9_isStale_153 (by decide) ?_
          exact ih x3 (0 : Int32) (x5 + 1) M137 _ _ _ hw hP hS (lv_sub hl [2, 3, 4, 5, 1, 0] rfl)
        · replace hw := if_f h hw
          refine lv_iconst (pc := 143) (v := (1 : Int32)) hx hb dX9_isStale_143 (by decide) ?_
          refine lv_goto (pc := 144) (tgt := 148) hx hb dX9_isStale_144 (by decide) ?_
          refine lv_istore (pc := 148) (lv' := [(4, .int (1 : Int32)), (0, .ref (ad (29, 0, 0, 0))), (1, .int a1), (2, .int a2), (3, .int x3), (5, .int x5)]) hx hb dX9_isStale_148 hl (by decide) rfl (fun ls hl => ?_)
          refine lv_iinc (pc := 150) (v := x5 + 1) (lv' := [(5, .int (x5 + 1)), (4, .int (1 : Int32)), (0, .ref (ad (29, 0, 0, 0))), (1, .int a1), (2, .int a2), (3, .int x3)]) hx hb dX9_isStale_150 hl (k := 5) rfl rfl (by decide) rfl (fun ls hl => ?_)
          refine lv_goto (pc := 153) (tgt := 106) hx hb dX9_isStale_153 (by decide) ?_
          exact ih x3 (1 : Int32) (x5 + 1) M137 _ _ _ hw hP hS (lv_sub hl [2, 3, 4, 5, 1, 0] rfl)
set_option maxHeartbeats 4000000 in
set_option maxRecDepth 100000 in
theorem j_X9_isStale_12 {a1 : Int32} {a2 : Int32} (C : cx p s m args meth c cX9_isStale 6 (some .boolean) RX9 G) (hC : clo I) (h0 : I (29, 0, 0, 0)) {Q : Int32 → Mem → Prop} : ∀ (n : Nat), ∀ (x3 : Int32) (x4 : Int32) (M : Mem) (H : Heap) (locs : List Loc) (ls : Array Slot), w_X9_isStale_12 a1 a2 Q n x3 x4 M → wd G I ad M H → va_S (fA I ad) s.heap H locs → lv_has ls 6 [(0, .ref (ad (29, 0, 0, 0))), (1, .int a1), (2, .int a2), (3, .int x3), (4, .int x4)] → W p l e rm_X9_isStale s m args below meth c H locs 0 0 (MQ below (qI G I ad Q) args s 0 0 (fA I ad)) (F0 m 12 ls []) := by
  have hx := C.1
  have hb := C.2.1
  have hown := C.2.2.2.1
  have hts := C.2.2.2.2.1
  intro n
  induction n with
  | zero =>
    intro x3 x4 M H locs ls hw hP hS hl
    rw [w_X9_isStale_12] at hw
    exact hw.elim
  | succ n ih =>
    intro x3 x4 M H locs ls hw hP hS hl
    rw [w_X9_isStale_12] at hw
    refine lv_iload (pc := 12) hx hb dX9_isStale_12 (lv_at hl 4 rfl) ?_
    refine lv_bipush (pc := 14) (v := (12 : Int32)) hx hb dX9_isStale_14 (by decide) ?_
    refine lv_icmp_ge (pc := 16) (tgt := 41) hx hb dX9_isStale_16 (by decide) (fun h => ?_) (fun h => ?_)
    · replace hw := if_t h hw
      refine lv_aload_n (pc := 41) hx hb dX9_isStale_41 rfl (lv_at hl 0 rfl) ?_
      refine lv_iload_n (pc := 42) hx hb dX9_isStale_42 rfl (lv_at hl 1 rfl) ?_
      refine lv_iload_n (pc := 43) hx hb dX9_isStale_43 rfl (lv_at hl 2 rfl) ?_
      refine r_cVV (pc := 44) (rest := []) (As := [.int a1, .int a2]) C hl.1 hP hS (k_X9_makeAnew l G hC h0 hw) h0 rfl rfl mw_810 mw_812 mw_40 mw_65 mw_813 ⟨rfl, rfl⟩ hd_X9_makeAnew rfl rfl ⟨Nat.le_of_ble_eq_true rfl, Nat.le_of_ble_eq_true rfl⟩ (Nat.le_of_ble_eq_true rfl) ⟨Nat.zero_le _, Nat.zero_le _⟩ dX9_isStale_44 (fun M44 H locs hw hP hS => ?_)
      refine lv_aload_n (pc := 47) hx hb dX9_isStale_47 rfl (lv_at hl 0 rfl) ?_
      refine gf_719 (pc := 48) C hP h0 dX9_isStale_48 ?_
      refine lv_iconst (pc := 51) (v := (0 : Int32)) hx hb dX9_isStale_51 (by decide) ?_
      refine r_ialdK (pc := 52) (n := 12) (k := 0) C hP (cl_29_3 hC h0) (fun _ _ _ _ => rfl) (vpc (by decide)) (by decide) dX9_isStale_52 ?_
      refine lv_aload_n (pc := 53) hx hb dX9_isStale_53 rfl (lv_at hl 0 rfl) ?_
      refine gf_718 (pc := 54) C hP h0 dX9_isStale_54 ?_
      refine lv_iload_n (pc := 57) hx hb dX9_isStale_57 rfl (lv_at hl 3 rfl) ?_
      refine r_ialdK (pc := 58) (n := 288) (k := x3.toNatClampNeg) C hP (cl_29_2 hC h0) (fun _ _ _ _ => rfl) hw.1 rfl dX9_isStale_58 ?_
      replace hw := hw.2
      refine lv_icmp_ne (pc := 59) (tgt := 96) hx hb dX9_isStale_59 (by decide) (fun h => ?_) (fun h => ?_)
      · replace hw := if_f h hw
        refine lv_iconst (pc := 96) (v := (1 : Int32)) hx hb dX9_isStale_96 (by decide) ?_
        refine lv_goto (pc := 97) (tgt := 101) hx hb dX9_isStale_97 (by decide) ?_
        refine lv_istore (pc := 101) (lv' := [(4, .int (1 : Int32)), (0, .ref (ad (29, 0, 0, 0))), (1, .int a1), (2, .int a2), (3, .int x3)]) hx hb dX9_isStale_101 hl (by decide) rfl (fun ls hl => ?_)
        refine lv_iconst (pc := 103) (v := (0 : Int32)) hx hb dX9_isStale_103 (by decide) ?_
        refine lv_istore (pc := 104) (lv' := [(5, .int (0 : Int32)), (4, .int (1 : Int32)), (0, .ref (ad (29, 0, 0, 0))), (1, .int a1), (2, .int a2), (3, .int x3)]) hx hb dX9_isStale_104 hl (by decide) rfl (fun ls hl => ?_)
        obtain ⟨n0, hw⟩ := hw
        exact j_X9_isStale_106 C hC h0 n0 x3 (1 : Int32) (0 : Int32) M44 _ _ _ hw hP hS (lv_sub hl [2, 3, 4, 5, 1, 0] rfl)
      · replace hw := if_t h hw
        refine lv_aload_n (pc := 62) hx hb dX9_isStale_62 rfl (lv_at hl 0 rfl) ?_
        refine gf_719 (pc := 63) C hP h0 dX9_isStale_63 ?_
        refine lv_iconst (pc := 66) (v := (1 : Int32)) hx hb dX9_isStale_66 (by decide) ?_
        refine r_ialdK (pc := 67) (n := 12) (k := 1) C hP (cl_29_3 hC h0) (fun _ _ _ _ => rfl) (vpc (by decide)) (by decide) dX9_isStale_67 ?_
        refine lv_aload_n (pc := 68) hx hb dX9_isStale_68 rfl (lv_at hl 0 rfl) ?_
        refine gf_718 (pc := 69) C hP h0 dX9_isStale_69 ?_
        refine lv_iload_n (pc := 72) hx hb dX9_isStale_72 rfl (lv_at hl 3 rfl) ?_
        refine lv_iconst (pc := 73) (v := (1 : Int32)) hx hb dX9_isStale_73 (by decide) ?_
        refine lv_iadd (pc := 74) hx hb dX9_isStale_74 ?_
        refine r_ialdK (pc := 75) (n := 288) (k := (x3 + (1 : Int32)).toNatClampNeg) C hP (cl_29_2 hC h0) (fun _ _ _ _ => rfl) hw.1 rfl dX9_isStale_75 ?_
        replace hw := hw.2
        refine lv_icmp_ne (pc := 76) (tgt := 96) hx hb dX9_isStale_76 (by decide) (fun h => ?_) (fun h => ?_)
        · replace hw := if_f h hw
          refine lv_iconst (pc := 96) (v := (1 : Int32)) hx hb dX9_isStale_96 (by decide) ?_
          refine lv_goto (pc := 97) (tgt := 101) hx hb dX9_isStale_97 (by decide) ?_
          refine lv_istore (pc := 101) (lv' := [(4, .int (1 : Int32)), (0, .ref (ad (29, 0, 0, 0))), (1, .int a1), (2, .int a2), (3, .int x3)]) hx hb dX9_isStale_101 hl (by decide) rfl (fun ls hl => ?_)
          refine lv_iconst (pc := 103) (v := (0 : Int32)) hx hb dX9_isStale_103 (by decide) ?_
          refine lv_istore (pc := 104) (lv' := [(5, .int (0 : Int32)), (4, .int (1 : Int32)), (0, .ref (ad (29, 0, 0, 0))), (1, .int a1), (2, .int a2), (3, .int x3)]) hx hb dX9_isStale_104 hl (by decide) rfl (fun ls hl => ?_)
          obtain ⟨n0, hw⟩ := hw
          exact j_X9_isStale_106 C hC h0 n0 x3 (1 : Int32) (0 : Int32) M44 _ _ _ hw hP hS (lv_sub hl [2, 3, 4, 5, 1, 0] rfl)
        · replace hw := if_t h hw
          refine lv_aload_n (pc := 79) hx hb dX9_isStale_79 rfl (lv_at hl 0 rfl) ?_
          refine gf_719 (pc := 80) C hP h0 dX9_isStale_80 ?_
          refine lv_iconst (pc := 83) (v := (3 : Int32)) hx hb dX9_isStale_83 (by decide) ?_
          refine r_ialdK (pc := 84) (n := 12) (k := 3) C hP (cl_29_3 hC h0) (fun _ _ _ _ => rfl) (vpc (by decide)) (by decide) dX9_isStale_84 ?_
          refine lv_aload_n (pc := 85) hx hb dX9_isStale_85 rfl (lv_at hl 0 rfl) ?_
          refine gf_718 (pc := 86) C hP h0 dX9_isStale_86 ?_
          refine lv_iload_n (pc := 89) hx hb dX9_isStale_89 rfl (lv_at hl 3 rfl) ?_
          refine lv_iconst (pc := 90) (v := (3 : Int32)) hx hb dX9_isStale_90 (by decide) ?_
          refine lv_iadd (pc := 91) hx hb dX9_isStale_91 ?_
          refine r_ialdK (pc := 92) (n := 288) (k := (x3 + (3 : Int32)).toNatClampNeg) C hP (cl_29_2 hC h0) (fun _ _ _ _ => rfl) hw.1 rfl dX9_isStale_92 ?_
          replace hw := hw.2
          refine lv_icmp_eq (pc := 93) (tgt := 100) hx hb dX9_isStale_93 (by decide) (fun h => ?_) (fun h => ?_)
          · replace hw := if_t h hw
            refine lv_iconst (pc := 100) (v := (0 : Int32)) hx hb dX9_isStale_100 (by decide) ?_
            refine lv_istore (pc := 101) (lv' := [(4, .int (0 : Int32)), (0, .ref (ad (29, 0, 0, 0))), (1, .int a1), (2, .int a2), (3, .int x3)]) hx hb dX9_isStale_101 hl (by decide) rfl (fun ls hl => ?_)
            refine lv_iconst (pc := 103) (v := (0 : Int32)) hx hb dX9_isStale_103 (by decide) ?_
            refine lv_istore (pc := 104) (lv' := [(5, .int (0 : Int32)), (4, .int (0 : Int32)), (0, .ref (ad (29, 0, 0, 0))), (1, .int a1), (2, .int a2), (3, .int x3)]) hx hb dX9_isStale_104 hl (by decide) rfl (fun ls hl => ?_)
            obtain ⟨n0, hw⟩ := hw
            exact j_X9_isStale_106 C hC h0 n0 x3 (0 : Int32) (0 : Int32) M44 _ _ _ hw hP hS (lv_sub hl [2, 3, 4, 5, 1, 0] rfl)
          · replace hw := if_f h hw
            refine lv_iconst (pc := 96) (v := (1 : Int32)) hx hb dX9_isStale_96 (by decide) ?_
            refine lv_goto (pc := 97) (tgt := 101) hx hb dX9_isStale_97 (by decide) ?_
            refine lv_istore (pc := 101) (lv' := [(4, .int (1 : Int32)), (0, .ref (ad (29, 0, 0, 0))), (1, .int a1), (2, .int a2), (3, .int x3)]) hx hb dX9_isStale_101 hl (by decide) rfl (fun ls hl => ?_)
            refine lv_iconst (pc := 103) (v := (0 : Int32)) hx hb dX9_isStale_103 (by decide) ?_
            refine lv_istore (pc := 104) (lv' := [(5, .int (0 : Int32)), (4, .int (1 : Int32)), (0, .ref (ad (29, 0, 0, 0))), (1, .int a1), (2, .int a2), (3, .int x3)]) hx hb dX9_isStale_104 hl (by decide) rfl (fun ls hl => ?_)
            obtain ⟨n0, hw⟩ := hw
            exact j_X9_isStale_106 C hC h0 n0 x3 (1 : Int32) (0 : Int32) M44 _ _ _ hw hP hS (lv_sub hl [2, 3, 4, 5, 1, 0] rfl)
    · replace hw := if_f h hw
      refine lv_aload_n (pc := 19) hx hb dX9_isStale_19 rfl (lv_at hl 0 rfl) ?_
      refine gf_719 (pc := 20) C hP h0 dX9_isStale_20 ?_
      refine lv_iload (pc := 23) hx hb dX9_isStale_23 (lv_at hl 4 rfl) ?_
      refine lv_aload_n (pc := 25) hx hb dX9_isStale_25 rfl (lv_at hl 0 rfl) ?_
      refine gf_718 (pc := 26) C hP h0 dX9_isStale_26 ?_
      refine lv_iload_n (pc := 29) hx hb dX9_isStale_29 rfl (lv_at hl 3 rfl) ?_
      refine lv_iload (pc := 30) hx hb dX9_isStale_30 (lv_at hl 4 rfl) ?_
      refine lv_iadd (pc := 32) hx hb dX9_isStale_32 ?_
      refine r_ialdK (pc := 33) (n := 288) (k := (x3 + x4).toNatClampNeg) C hP (cl_29_2 hC h0) (fun _ _ _ _ => rfl) hw.1 rfl dX9_isStale_33 ?_
      replace hw := hw.2
      refine r_iastK (pc := 34) (n := 12) (k := x4.toNatClampNeg) C hP hS (cl_29_3 hC h0) (fun _ _ _ _ => rfl) hw.1 rfl dX9_isStale_34 (fun H locs hP hS => ?_)
      replace hw := hw.2
      refine lv_iinc (pc := 35) (v := x4 + 1) (lv' := [(4, .int (x4 + 1)), (0, .ref (ad (29, 0, 0, 0))), (1, .int a1), (2, .int a2), (3, .int x3)]) hx hb dX9_isStale_35 hl (k := 4) rfl rfl (by decide) rfl (fun ls hl => ?_)
      refine lv_goto (pc := 38) (tgt := 12) hx hb dX9_isStale_38 (by decide) ?_
      exact ih x3 (x4 + 1) (mu M (33, 0, 0, 0) (x4.toNatClampNeg) (M.1 (32, 0, 0, 0) ((x3 + x4).toNatClampNeg))) _ _ _ hw hP hS (lv_sub hl [1, 2, 3, 4, 0] rfl)
set_option maxHeartbeats 4000000 in
set_option maxRecDepth 100000 in
theorem j_X9_isStale_0 {a1 : Int32} {a2 : Int32} (C : cx p s m args meth c cX9_isStale 6 (some .boolean) RX9 G) (hC : clo I) (h0 : I (29, 0, 0, 0)) {Q : Int32 → Mem → Prop} : ∀ (M : Mem) (H : Heap) (locs : List Loc) (ls : Array Slot), w_X9_isStale a1 a2 Q M → wd G I ad M H → va_S (fA I ad) s.heap H locs → lv_has ls 6 [(0, .ref (ad (29, 0, 0, 0))), (1, .int a1), (2, .int a2)] → W p l e rm_X9_isStale s m args below meth c H locs 0 0 (MQ below (qI G I ad Q) args s 0 0 (fA I ad)) (F0 m 0 ls []) := by
  have hx := C.1
  have hb := C.2.1
  have hown := C.2.2.2.1
  have hts := C.2.2.2.2.1
  intro M H locs ls hw hP hS hl
  unfold w_X9_isStale at hw
  refine lv_bipush (pc := 0) (v := (12 : Int32)) hx hb dX9_isStale_0 (by decide) ?_
  refine lv_iconst (pc := 2) (v := (4 : Int32)) hx hb dX9_isStale_2 (by decide) ?_
  refine lv_iload_n (pc := 3) hx hb dX9_isStale_3 rfl (lv_at hl 1 rfl) ?_
  refine lv_imul (pc := 4) hx hb dX9_isStale_4 ?_
  refine lv_iload_n (pc := 5) hx hb dX9_isStale_5 rfl (lv_at hl 2 rfl) ?_
  refine lv_iadd (pc := 6) hx hb dX9_isStale_6 ?_
  refine lv_imul (pc := 7) hx hb dX9_isStale_7 ?_
  refine lv_topi (fun x3_8 ex3_8 => ?_)
  replace hw := hw x3_8 ex3_8
  refine lv_istore_n (pc := 8) (lv' := [(3, .int x3_8), (0, .ref (ad (29, 0, 0, 0))), (1, .int a1), (2, .int a2)]) hx hb dX9_isStale_8 rfl hl (by decide) rfl (fun ls hl => ?_)
  refine lv_iconst (pc := 9) (v := (0 : Int32)) hx hb dX9_isStale_9 (by decide) ?_
  refine lv_istore (pc := 10) (lv' := [(4, .int (0 : Int32)), (3, .int x3_8), (0, .ref (ad (29, 0, 0, 0))), (1, .int a1), (2, .int a2)]) hx hb dX9_isStale_10 hl (by decide) rfl (fun ls hl => ?_)
  obtain ⟨n0, hw⟩ := hw
  exact j_X9_isStale_12 C hC h0 n0 x3_8 (0 : Int32) M _ _ _ hw hP hS (lv_sub hl [2, 3, 4, 1, 0] rfl)
end
theorem k_X9_isStale (l : Launch) (G : GG) {I : ix → Prop} {ad : ix → Nat} (hC : clo I) {a1 : Int32} {a2 : Int32} (h0 : I (29, 0, 0, 0)) {Q : Int32 → Mem → Prop} {M : Mem} (hw : w_X9_isStale a1 a2 Q M) : Met l yX9_isStale (wW yX9_isStale cX9_isStale 6 (some .boolean)) rm_X9_isStale (va_Pc [.ref (ad (29, 0, 0, 0)), .int a1, .int a2] (fun U => wd G I ad M U.heap ∧ wK G U)) (qI G I ad Q) 0 0 (fA I ad) := met_of (by decide +kernel) (Nat.le_of_ble_eq_true rfl) (fun p e s m below meth c C hP hS ls hl => j_X9_isStale_0 C hC h0 _ _ _ _ hw hP hS hl)
section
variable {p : Program} {l : Launch} {e : Env} {s : State} {m : MethodId} {args : Array Value} {below : List Frame} {meth : Method} {c : Code} 
variable  {G : GG} {I : ix → Prop} {ad : ix → Nat}
set_option maxHeartbeats 4000000 in
set_option maxRecDepth 100000 in
theorem j_X9_anew_13 {a1 : Int32} (C : cx p s m args meth c cX9_anew 4 (some .int) RX9 G) (hC : clo I) (h0 : I (29, 0, 0, 0)) {Q : Int32 → Mem → Prop} : ∀ (n : Nat), ∀ (x2 : Int32) (x3 : Int32) (M : Mem) (H : Heap) (locs : List Loc) (ls : Array Slot), w_X9_anew_13 a1 Q n x2 x3 M → wd G I ad M H → va_S (fA I ad) s.heap H locs → lv_has ls 4 [(0, .ref (ad (29, 0, 0, 0))), (1, .int a1), (2, .int x2), (3, .int x3)] → W p l e rm_X9_anew s m args below meth c H locs 0 0 (MQ below (qI G I ad Q) args s 0 0 (fA I ad)) (F0 m 13 ls []) := by
  have hx := C.1
  have hb := C.2.1
  have hown := C.2.2.2.1
  have hts := C.2.2.2.2.1
  intro n
  induction n with
  | zero =>
    intro x2 x3 M H locs ls hw hP hS hl
    rw [w_X9_anew_13] at hw
    exact hw.elim
  | succ n ih =>
    intro x2 x3 M H locs ls hw hP hS hl
    rw [w_X9_anew_13] at hw
    refine lv_iload_n (pc := 13) hx hb dX9_anew_13 rfl (lv_at hl 3 rfl) ?_
    refine lv_iconst (pc := 14) (v := (4 : Int32)) hx hb dX9_anew_14 (by decide) ?_
    refine lv_icmp_ge (pc := 15) (tgt := 47) hx hb dX9_anew_15 (by decide) (fun h => ?_) (fun h => ?_)
    · replace hw := if_t h hw
      refine lv_iload_n (pc := 47) hx hb dX9_anew_47 rfl (lv_at hl 2 rfl) ?_
      exact r_iret (pc := 48) C hP hS hw dX9_anew_48
    · replace hw := if_f h hw
      refine lv_iload_n (pc := 18) hx hb dX9_anew_18 rfl (lv_at hl 2 rfl) ?_
      refine lv_aload_n (pc := 19) hx hb dX9_anew_19 rfl (lv_at hl 0 rfl) ?_
      refine lv_iload_n (pc := 20) hx hb dX9_anew_20 rfl (lv_at hl 1 rfl) ?_
      refine lv_iload_n (pc := 21) hx hb dX9_anew_21 rfl (lv_at hl 3 rfl) ?_
      refine r_cVI (pc := 22) (rest := [.int x2]) (As := [.int a1, .int x3]) C hl.1 hP hS (k_X9_isStale l G hC h0 hw) h0 rfl rfl mw_806 mw_808 mw_39 mw_65 mw_809 ⟨rfl, rfl⟩ hd_X9_isStale rfl rfl ⟨Nat.le_of_ble_eq_true rfl, Nat.le_of_ble_eq_true rfl⟩ (Nat.le_of_ble_eq_true rfl) ⟨Nat.zero_le _, Nat.zero_le _⟩ dX9_anew_22 (fun r22 M22 H locs hw hP hS => ?_)
      refine lv_if_eq (pc := 25) (tgt := 32) hx hb dX9_anew_25 (by decide) (fun h => ?_) (fun h => ?_)
      · replace hw := if_t h hw
        refine lv_iconst (pc := 32) (v := (0 : Int32)) hx hb dX9_anew_32 (by decide) ?_
        refine lv_iadd (pc := 33) hx hb dX9_anew_33 ?_
        refine lv_topi (fun x2_34 ex2_34 => ?_)
        replace hw := hw x2_34 ex2_34
        refine lv_istore_n (pc := 34) (lv' := [(2, .int x2_34), (0, .ref (ad (29, 0, 0, 0))), (1, .int a1), (3, .int x3)]) hx hb dX9_anew_34 rfl hl (by decide) rfl (fun ls hl => ?_)
        refine lv_aload_n (pc := 35) hx hb dX9_anew_35 rfl (lv_at hl 1 rfl) ?_
        refine lv_iload_n (pc := 36) hx hb dX9_anew_36 rfl (lv_at hl 2 rfl) ?_
        refine lv_iload_n (pc := 37) hx hb dX9_anew_37 rfl (lv_at hl 3 rfl) ?_
        refine r_cVV (pc := 38) (rest := []) (As := [.int a1, .int x3]) C hl.1 hP hS (k_X9_makeAnew l G hC h0 hw) h0 rfl rfl mw_810 mw_812 mw_40 mw_65 mw_813 ⟨rfl, rfl⟩ hd_X9_makeAnew rfl rfl ⟨Nat.le_of_ble_eq_true rfl, Nat.le_of_ble_eq_true rfl⟩ (Nat.le_of_ble_eq_true rfl) ⟨Nat.zero_le _, Nat.zero_le _⟩ dX9_anew_38 (fun M38 H locs hw hP hS => ?_)
        refine lv_iinc (pc := 41) (v := x3 + 1) (lv' := [(3, .int (x3 + 1)), (2, .int x2_34), (0, .ref (ad (29, 0, 0, 0))), (1, .int a1)]) hx hb dX9_anew_41 hl (k := 3) rfl rfl (by decide) rfl (fun ls hl => ?_)
        refine lv_goto (pc := 44) (tgt := 13) hx hb dX9_anew_44 (by decide) ?_
        exact ih x2_34 (x3 + 1) M38 _ _ _ hw hP hS (lv_sub hl [2, 3, 1, 0] rfl)
      · replace hw := if_f h hw
        refine lv_iconst (pc := 28) (v := (1 : Int32)) hx hb dX9_anew_28 (by decide) ?_
        refine lv_goto (pc := 29) (tgt := 33) hx hb dX9_anew_29 (by decide) ?_
        refine lv_iadd (pc := 33) hx hb dX9_anew_33 ?_
        refine lv_topi (fun x2_34 ex2_34 => ?_)
        replace hw := hw x2_34 ex2_34
        refine lv_istore_n (pc := 34) (lv' := [(2, .int x2_34), (0, .ref (ad (29, 0, 0, 0))), (1, .int a1), (3, .int x3)]) hx hb dX9_anew_34 rfl hl (by decide) rfl (fun ls hl => ?_)
        refine lv_aload_n (pc := 35) hx hb dX9_anew_35 rfl (lv_at hl 1 rfl) ?_
        refine lv_iload_n (pc := 36) hx hb dX9_anew_36 rfl (lv_at hl 2 rfl) ?_
        refine lv_iload_n (pc := 37) hx hb dX9_anew_37 rfl (lv_at hl 3 rfl) ?_
        refine r_cVV (pc := 38) (rest := []) (As := [.int a1, .int x3]) C hl.1 hP hS (k_X9_makeAnew l G hC h0 hw) h0 rfl rfl mw_810 mw_812 mw_40 mw_65 mw_813 ⟨rfl, rfl⟩ hd_X9_makeAnew rfl rfl ⟨Nat.le_of_ble_eq_true rfl, Nat.le_of_ble_eq_true rfl⟩ (Nat.le_of_ble_eq_true rfl) ⟨Nat.zero_le _, Nat.zero_le _⟩ dX9_anew_38 (fun M38 H locs hw hP hS => ?_)
        refine lv_iinc (pc := 41) (v := x3 + 1) (lv' := [(3, .int (x3 + 1)), (2, .int x2_34), (0, .ref (ad (29, 0, 0, 0))), (1, .int a1)]) hx hb dX9_anew_41 hl (k := 3) rfl rfl (by decide) rfl (fun ls hl => ?_)
        refine lv_goto (pc := 44) (tgt := 13) hx hb dX9_anew_44 (by decide) ?_
        exact ih x2_34 (x3 + 1) M38 _ _ _ hw hP hS (lv_sub hl [2, 3, 1, 0] rfl)
set_option maxHeartbeats 4000000 in
set_option maxRecDepth 100000 in
theorem j_X9_anew_0 {a1 : Int32} (C : cx p s m args meth c cX9_anew 4 (some .int) RX9 G) (hC : clo I) (h0 : I (29, 0, 0, 0)) {Q : Int32 → Mem → Prop} : ∀ (M : Mem) (H : Heap) (locs : List Loc) (ls : Array Slot), w_X9_anew a1 Q M → wd G I ad M H → va_S (fA I ad) s.heap H locs → lv_has ls 4 [(0, .ref (ad (29, 0, 0, 0))), (1, .int a1)] → W p l e rm_X9_anew s m args below meth c H locs 0 0 (MQ below (qI G I ad Q) args s 0 0 (fA I ad)) (F0 m 0 ls []) := by
  have hx := C.1
  have hb := C.2.1
  have hown := C.2.2.2.1
  have hts := C.2.2.2.2.1
  intro M H locs ls hw hP hS hl
  unfold w_X9_anew at hw
  refine lv_iload_n (pc := 0) hx hb dX9_anew_0 rfl (lv_at hl 1 rfl) ?_
  refine r_cSI (pc := 1) (rest := []) (As := [.int a1]) C hl.1 hP hS (k_X9_isBlock l G hC  hw) mw_776 mw_777 mw_65 mw_778 ⟨rfl, rfl⟩ hd_X9_isBlock rfl rfl ⟨Nat.le_of_ble_eq_true rfl, Nat.le_of_ble_eq_true rfl⟩ (Nat.le_of_ble_eq_true rfl) ⟨Nat.zero_le _, Nat.zero_le _⟩ dX9_anew_1 (fun r1 M1 H locs hw hP hS => ?_)
  refine lv_if_ne (pc := 4) (tgt := 9) hx hb dX9_anew_4 (by decide) (fun h => ?_) (fun h => ?_)
  · replace hw := if_f h hw
    refine lv_iconst (pc := 9) (v := (0 : Int32)) hx hb dX9_anew_9 (by decide) ?_
    refine lv_istore_n (pc := 10) (lv' := [(2, .int (0 : Int32)), (0, .ref (ad (29, 0, 0, 0))), (1, .int a1)]) hx hb dX9_anew_10 rfl hl (by decide) rfl (fun ls hl => ?_)
    refine lv_iconst (pc := 11) (v := (0 : Int32)) hx hb dX9_anew_11 (by decide) ?_
    refine lv_istore_n (pc := 12) (lv' := [(3, .int (0 : Int32)), (2, .int (0 : Int32)), (0, .ref (ad (29, 0, 0, 0))), (1, .int a1)]) hx hb dX9_anew_12 rfl hl (by decide) rfl (fun ls hl => ?_)
    obtain ⟨n0, hw⟩ := hw
    exact j_X9_anew_13 C hC h0 n0 (0 : Int32) (0 : Int32) M1 _ _ _ hw hP hS (lv_sub hl [2, 3, 1, 0] rfl)
  · replace hw := if_t h hw
    refine lv_iconst (pc := 7) (v := (-1 : Int32)) hx hb dX9_anew_7 (by decide) ?_
    exact r_iret (pc := 8) C hP hS hw dX9_anew_8
end
theorem k_X9_anew (l : Launch) (G : GG) {I : ix → Prop} {ad : ix → Nat} (hC : clo I) {a1 : Int32} (h0 : I (29, 0, 0, 0)) {Q : Int32 → Mem → Prop} {M : Mem} (hw : w_X9_anew a1 Q M) : Met l yX9_anew (wW yX9_anew cX9_anew 4 (some .int)) rm_X9_anew (va_Pc [.ref (ad (29, 0, 0, 0)), .int a1] (fun U => wd G I ad M U.heap ∧ wK G U)) (qI G I ad Q) 0 0 (fA I ad) := met_of (by decide +kernel) (Nat.le_of_ble_eq_true rfl) (fun p e s m below meth c C hP hS ls hl => j_X9_anew_0 C hC h0 _ _ _ _ hw hP hS hl)
section
variable {p : Program} {l : Launch} {e : Env} {s : State} {m : MethodId} {args : Array Value} {below : List Frame} {meth : Method} {c : Code} 
variable  {G : GG} {I : ix → Prop} {ad : ix → Nat}
set_option maxHeartbeats 4000000 in
set_option maxRecDepth 100000 in
theorem j_X9_cell_0 {a1 : Int32} {a2 : Int32} {a3 : Int32} (C : cx p s m args meth c cX9_cell 4 (some .int) RX9 G) (hC : clo I) (h0 : I (29, 0, 0, 0)) {Q : Int32 → Mem → Prop} : ∀ (M : Mem) (H : Heap) (locs : List Loc) (ls : Array Slot), w_X9_cell a1 a2 a3 Q M → wd G I ad M H → va_S (fA I ad) s.heap H locs → lv_has ls 4 [(0, .ref (ad (29, 0, 0, 0))), (1, .int a1), (2, .int a2), (3, .int a3)] → W p l e rm_X9_cell s m args below meth c H locs 0 0 (MQ below (qI G I ad Q) args s 0 0 (fA I ad)) (F0 m 0 ls []) := by
  have hx := C.1
  have hb := C.2.1
  have hown := C.2.2.2.1
  have hts := C.2.2.2.2.1
  intro M H locs ls hw hP hS hl
  unfold w_X9_cell at hw
  refine lv_aload_n (pc := 0) hx hb dX9_cell_0 rfl (lv_at hl 0 rfl) ?_
  refine lv_iload_n (pc := 1) hx hb dX9_cell_1 rfl (lv_at hl 1 rfl) ?_
  refine lv_iload_n (pc := 2) hx hb dX9_cell_2 rfl (lv_at hl 2 rfl) ?_
  refine r_cVI (pc := 3) (rest := []) (As := [.int a1, .int a2]) C hl.1 hP hS (k_X9_isRow l G hC h0 hw) h0 rfl rfl mw_794 mw_796 mw_37 mw_65 mw_797 ⟨rfl, rfl⟩ hd_X9_isRow rfl rfl ⟨Nat.le_of_ble_eq_true rfl, Nat.le_of_ble_eq_true rfl⟩ (Nat.le_of_ble_eq_true rfl) ⟨Nat.zero_le _, Nat.zero_le _⟩ dX9_cell_3 (fun r3 M3 H locs hw hP hS => ?_)
  refine lv_if_eq (pc := 6) (tgt := 26) hx hb dX9_cell_6 (by decide) (fun h => ?_) (fun h => ?_)
  · replace hw := if_t h hw
    refine lv_ldc (pc := 26) (own := RX9) (v := (-3000001 : Int32)) hx hb hown (hts _ mw_821) dX9_cell_26 ?_
    exact r_iret (pc := 28) C hP hS hw dX9_cell_28
  · replace hw := if_f h hw
    refine lv_iload_n (pc := 9) hx hb dX9_cell_9 rfl (lv_at hl 3 rfl) ?_
    refine r_cSI (pc := 10) (rest := []) (As := [.int a3]) C hl.1 hP hS (k_X9_isColumn l G hC  hw) mw_818 mw_819 mw_65 mw_820 ⟨rfl, rfl⟩ hd_X9_isColumn rfl rfl ⟨Nat.le_of_ble_eq_true rfl, Nat.le_of_ble_eq_true rfl⟩ (Nat.le_of_ble_eq_true rfl) ⟨Nat.zero_le _, Nat.zero_le _⟩ dX9_cell_10 (fun r10 M10 H locs hw hP hS => ?_)
    refine lv_if_eq (pc := 13) (tgt := 26) hx hb dX9_cell_13 (by decide) (fun h => ?_) (fun h => ?_)
    · replace hw := if_t h hw
      refine lv_ldc (pc := 26) (own := RX9) (v := (-3000001 : Int32)) hx hb hown (hts _ mw_821) dX9_cell_26 ?_
      exact r_iret (pc := 28) C hP hS hw dX9_cell_28
    · replace hw := if_f h hw
      refine lv_aload_n (pc := 16) hx hb dX9_cell_16 rfl (lv_at hl 0 rfl) ?_
      refine lv_iload_n (pc := 17) hx hb dX9_cell_17 rfl (lv_at hl 1 rfl) ?_
      refine lv_iload_n (pc := 18) hx hb dX9_cell_18 rfl (lv_at hl 2 rfl) ?_
      refine lv_iload_n (pc := 19) hx hb dX9_cell_19 rfl (lv_at hl 3 rfl) ?_
      refine r_cVI (pc := 20) (rest := []) (As := [.int a1, .int a2, .int a3]) C hl.1 hP hS (k_X9_at l G hC h0 hw) h0 rfl rfl mw_798 mw_800 mw_38 mw_65 mw_801 ⟨rfl, rfl⟩ hd_X9_at rfl rfl ⟨Nat.le_of_ble_eq_true rfl, Nat.le_of_ble_eq_true rfl⟩ (Nat.le_of_ble_eq_true rfl) ⟨Nat.zero_le _, Nat.zero_le _⟩ dX9_cell_20 (fun r20 M20 H locs hw hP hS => ?_)
      refine lv_goto (pc := 23) (tgt := 28) hx hb dX9_cell_23 (by decide) ?_
      exact r_iret (pc := 28) C hP hS hw dX9_cell_28
end
theorem k_X9_cell (l : Launch) (G : GG) {I : ix → Prop} {ad : ix → Nat} (hC : clo I) {a1 : Int32} {a2 : Int32} {a3 : Int32} (h0 : I (29, 0, 0, 0)) {Q : Int32 → Mem → Prop} {M : Mem} (hw : w_X9_cell a1 a2 a3 Q M) : Met l yX9_cell (wW yX9_cell cX9_cell 4 (some .int)) rm_X9_cell (va_Pc [.ref (ad (29, 0, 0, 0)), .int a1, .int a2, .int a3] (fun U => wd G I ad M U.heap ∧ wK G U)) (qI G I ad Q) 0 0 (fA I ad) := met_of (by decide +kernel) (Nat.le_of_ble_eq_true rfl) (fun p e s m below meth c C hP hS ls hl => j_X9_cell_0 C hC h0 _ _ _ _ hw hP hS hl)
section
variable {p : Program} {l : Launch} {e : Env} {s : State} {m : MethodId} {args : Array Value} {below : List Frame} {meth : Method} {c : Code} 
variable  {G : GG} {I : ix → Prop} {ad : ix → Nat}
set_option maxHeartbeats 4000000 in
set_option maxRecDepth 100000 in
theorem j_X9_summary_0 {a1 : Int32} {a2 : Int32} {a3 : Int32} (C : cx p s m args meth c cX9_summary 5 (some .int) RX9 G) (hC : clo I) (h0 : I (29, 0, 0, 0)) {Q : Int32 → Mem → Prop} : ∀ (M : Mem) (H : Heap) (locs : List Loc) (ls : Array Slot), w_X9_summary a1 a2 a3 Q M → wd G I ad M H → va_S (fA I ad) s.heap H locs → lv_has ls 5 [(0, .ref (ad (29, 0, 0, 0))), (1, .int a1), (2, .int a2), (3, .int a3)] → W p l e rm_X9_summary s m args below meth c H locs 0 0 (MQ below (qI G I ad Q) args s 0 0 (fA I ad)) (F0 m 0 ls []) := by
  have hx := C.1
  have hb := C.2.1
  have hown := C.2.2.2.1
  have hts := C.2.2.2.2.1
  intro M H locs ls hw hP hS hl
  unfold w_X9_summary at hw
  refine lv_iload_n (pc := 0) hx hb dX9_summary_0 rfl (lv_at hl 1 rfl) ?_
  refine r_cSI (pc := 1) (rest := []) (As := [.int a1]) C hl.1 hP hS (k_X9_isBlock l G hC  hw) mw_776 mw_777 mw_65 mw_778 ⟨rfl, rfl⟩ hd_X9_isBlock rfl rfl ⟨Nat.le_of_ble_eq_true rfl, Nat.le_of_ble_eq_true rfl⟩ (Nat.le_of_ble_eq_true rfl) ⟨Nat.zero_le _, Nat.zero_le _⟩ dX9_summary_1 (fun r1 M1 H locs hw hP hS => ?_)
  refine lv_if_eq (pc := 4) (tgt := 14) hx hb dX9_summary_4 (by decide) (fun h => ?_) (fun h => ?_)
  · replace hw := if_t h hw
    refine lv_ldc (pc := 14) (own := RX9) (v := (-3000001 : Int32)) hx hb hown (hts _ mw_821) dX9_summary_14 ?_
    exact r_iret (pc := 16) C hP hS hw dX9_summary_16
  · replace hw := if_f h hw
    refine lv_iload_n (pc := 7) hx hb dX9_summary_7 rfl (lv_at hl 2 rfl) ?_
    refine r_cSI (pc := 8) (rest := []) (As := [.int a2]) C hl.1 hP hS (k_X9_isColumn l G hC  hw) mw_818 mw_819 mw_65 mw_820 ⟨rfl, rfl⟩ hd_X9_isColumn rfl rfl ⟨Nat.le_of_ble_eq_true rfl, Nat.le_of_ble_eq_true rfl⟩ (Nat.le_of_ble_eq_true rfl) ⟨Nat.zero_le _, Nat.zero_le _⟩ dX9_summary_8 (fun r8 M8 H locs hw hP hS => ?_)
    refine lv_if_ne (pc := 11) (tgt := 17) hx hb dX9_summary_11 (by decide) (fun h => ?_) (fun h => ?_)
    · replace hw := if_f h hw
      refine lv_iload_n (pc := 17) hx hb dX9_summary_17 rfl (lv_at hl 3 rfl) ?_
      refine lv_iconst (pc := 18) (v := (0 : Int32)) hx hb dX9_summary_18 (by decide) ?_
      refine lv_iconst (pc := 19) (v := (4 : Int32)) hx hb dX9_summary_19 (by decide) ?_
      refine r_cSI (pc := 20) (rest := []) (As := [.int a3, .int (0 : Int32), .int (4 : Int32)]) C hl.1 hP hS (k_X9_in l G hC  hw) mw_779 mw_780 mw_65 mw_781 ⟨rfl, rfl⟩ hd_X9_in rfl rfl ⟨Nat.le_of_ble_eq_true rfl, Nat.le_of_ble_eq_true rfl⟩ (Nat.le_of_ble_eq_true rfl) ⟨Nat.zero_le _, Nat.zero_le _⟩ dX9_summary_20 (fun r20 M20 H locs hw hP hS => ?_)
      refine lv_if_ne (pc := 23) (tgt := 29) hx hb dX9_summary_23 (by decide) (fun h => ?_) (fun h => ?_)
      · replace hw := if_f h hw
        refine lv_iload_n (pc := 29) hx hb dX9_summary_29 rfl (lv_at hl 3 rfl) ?_
        refine lv_iconst (pc := 30) (v := (4 : Int32)) hx hb dX9_summary_30 (by decide) ?_
        refine lv_icmp_ne (pc := 31) (tgt := 49) hx hb dX9_summary_31 (by decide) (fun h => ?_) (fun h => ?_)
        · replace hw := if_f h hw
          refine lv_aload_n (pc := 49) hx hb dX9_summary_49 rfl (lv_at hl 0 rfl) ?_
          refine gf_718 (pc := 50) C hP h0 dX9_summary_50 ?_
          refine lv_bipush (pc := 53) (v := (12 : Int32)) hx hb dX9_summary_53 (by decide) ?_
          refine lv_iconst (pc := 55) (v := (4 : Int32)) hx hb dX9_summary_55 (by decide) ?_
          refine lv_iload_n (pc := 56) hx hb dX9_summary_56 rfl (lv_at hl 1 rfl) ?_
          refine lv_imul (pc := 57) hx hb dX9_summary_57 ?_
          refine lv_iload_n (pc := 58) hx hb dX9_summary_58 rfl (lv_at hl 2 rfl) ?_
          refine lv_iadd (pc := 59) hx hb dX9_summary_59 ?_
          refine lv_imul (pc := 60) hx hb dX9_summary_60 ?_
          refine lv_iload_n (pc := 61) hx hb dX9_summary_61 rfl (lv_at hl 3 rfl) ?_
          refine lv_iadd (pc := 62) hx hb dX9_summary_62 ?_
          refine r_ialdK (pc := 63) (n := 288) (k := (((12 : Int32) * (((4 : Int32) * a1) + a2)) + a3).toNatClampNeg) C hP (cl_29_2 hC h0) (fun _ _ _ _ => rfl) hw.1 rfl dX9_summary_63 ?_
          replace hw := hw.2
          refine lv_topi (fun x4_64 ex4_64 => ?_)
          replace hw := hw x4_64 ex4_64
          refine lv_istore (pc := 64) (lv' := [(4, .int x4_64), (0, .ref (ad (29, 0, 0, 0))), (1, .int a1), (2, .int a2), (3, .int a3)]) hx hb dX9_summary_64 hl (by decide) rfl (fun ls hl => ?_)
          refine lv_iload_n (pc := 66) hx hb dX9_summary_66 rfl (lv_at hl 4 rfl) ?_
          refine lv_iconst (pc := 67) (v := (3 : Int32)) hx hb dX9_summary_67 (by decide) ?_
          refine lv_icmp_ne (pc := 68) (tgt := 81) hx hb dX9_summary_68 (by decide) (fun h => ?_) (fun h => ?_)
          · replace hw := if_f h hw
            refine lv_iload (pc := 81) hx hb dX9_summary_81 (lv_at hl 0 rfl) ?_
            exact r_iret (pc := 83) C hP hS hw dX9_summary_83
          · replace hw := if_t h hw
            refine lv_iload (pc := 71) hx hb dX9_summary_71 (lv_at hl 0 rfl) ?_
            refine lv_if_ge (pc := 73) (tgt := 81) hx hb dX9_summary_73 (by decide) (fun h => ?_) (fun h => ?_)
            · replace hw := if_t h hw
              refine lv_iload (pc := 81) hx hb dX9_summary_81 (lv_at hl 0 rfl) ?_
              exact r_iret (pc := 83) C hP hS hw dX9_summary_83
            · replace hw := if_f h hw
              refine lv_ldc (pc := 76) (own := RX9) (v := (-2000000 : Int32)) hx hb hown (hts _ mw_715) dX9_summary_76 ?_
              refine lv_goto (pc := 78) (tgt := 83) hx hb dX9_summary_78 (by decide) ?_
              exact r_iret (pc := 83) C hP hS hw dX9_summary_83
        · replace hw := if_t h hw
          refine lv_aload_n (pc := 34) hx hb dX9_summary_34 rfl (lv_at hl 0 rfl) ?_
          refine lv_iload_n (pc := 35) hx hb dX9_summary_35 rfl (lv_at hl 1 rfl) ?_
          refine lv_iload_n (pc := 36) hx hb dX9_summary_36 rfl (lv_at hl 2 rfl) ?_
          refine r_cVI (pc := 37) (rest := []) (As := [.int a1, .int a2]) C hl.1 hP hS (k_X9_isStale l G hC h0 hw) h0 rfl rfl mw_806 mw_808 mw_39 mw_65 mw_809 ⟨rfl, rfl⟩ hd_X9_isStale rfl rfl ⟨Nat.le_of_ble_eq_true rfl, Nat.le_of_ble_eq_true rfl⟩ (Nat.le_of_ble_eq_true rfl) ⟨Nat.zero_le _, Nat.zero_le _⟩ dX9_summary_37 (fun r37 M37 H locs hw hP hS => ?_)
          refine lv_if_eq (pc := 40) (tgt := 47) hx hb dX9_summary_40 (by decide) (fun h => ?_) (fun h => ?_)
          · replace hw := if_t h hw
            refine lv_iconst (pc := 47) (v := (0 : Int32)) hx hb dX9_summary_47 (by decide) ?_
            exact r_iret (pc := 48) C hP hS hw dX9_summary_48
          · replace hw := if_f h hw
            refine lv_iconst (pc := 43) (v := (1 : Int32)) hx hb dX9_summary_43 (by decide) ?_
            refine lv_goto (pc := 44) (tgt := 48) hx hb dX9_summary_44 (by decide) ?_
            exact r_iret (pc := 48) C hP hS hw dX9_summary_48
      · replace hw := if_t h hw
        refine lv_ldc (pc := 26) (own := RX9) (v := (-3000002 : Int32)) hx hb hown (hts _ mw_826) dX9_summary_26 ?_
        exact r_iret (pc := 28) C hP hS hw dX9_summary_28
    · replace hw := if_t h hw
      refine lv_ldc (pc := 14) (own := RX9) (v := (-3000001 : Int32)) hx hb hown (hts _ mw_821) dX9_summary_14 ?_
      exact r_iret (pc := 16) C hP hS hw dX9_summary_16
end
theorem k_X9_summary (l : Launch) (G : GG) {I : ix → Prop} {ad : ix → Nat} (hC : clo I) {a1 : Int32} {a2 : Int32} {a3 : Int32} (h0 : I (29, 0, 0, 0)) {Q : Int32 → Mem → Prop} {M : Mem} (hw : w_X9_summary a1 a2 a3 Q M) : Met l yX9_summary (wW yX9_summary cX9_summary 5 (some .int)) rm_X9_summary (va_Pc [.ref (ad (29, 0, 0, 0)), .int a1, .int a2, .int a3] (fun U => wd G I ad M U.heap ∧ wK G U)) (qI G I ad Q) 0 0 (fA I ad) := met_of (by decide +kernel) (Nat.le_of_ble_eq_true rfl) (fun p e s m below meth c C hP hS ls hl => j_X9_summary_0 C hC h0 _ _ _ _ hw hP hS hl)
section
variable {p : Program} {l : Launch} {e : Env} {s : State} {m : MethodId} {args : Array Value} {below : List Frame} {meth : Method} {c : Code} 
variable  {G : GG} {I : ix → Prop} {ad : ix → Nat}
set_option maxHeartbeats 4000000 in
set_option maxRecDepth 100000 in
theorem j_X9_listed_0 {a1 : Int32} {a2 : Int32} {a3 : Int32} {a4 : Int32} (C : cx p s m args meth c cX9_listed 6 (some .int) RX9 G) (hC : clo I) (h0 : I (29, 0, 0, 0)) {Q : Int32 → Mem → Prop} : ∀ (M : Mem) (H : Heap) (locs : List Loc) (ls : Array Slot), w_X9_listed a1 a2 a3 a4 Q M → wd G I ad M H → va_S (fA I ad) s.heap H locs → lv_has ls 6 [(0, .ref (ad (29, 0, 0, 0))), (1, .int a1), (2, .int a2), (3, .int a3), (4, .int a4)] → W p l e rm_X9_listed s m args below meth c H locs 0 0 (MQ below (qI G I ad Q) args s 0 0 (fA I ad)) (F0 m 0 ls []) := by
  have hx := C.1
  have hb := C.2.1
  have hown := C.2.2.2.1
  have hts := C.2.2.2.2.1
  intro M H locs ls hw hP hS hl
  unfold w_X9_listed at hw
  refine lv_iload_n (pc := 0) hx hb dX9_listed_0 rfl (lv_at hl 1 rfl) ?_
  refine r_cSI (pc := 1) (rest := []) (As := [.int a1]) C hl.1 hP hS (k_X9_isBlock l G hC  hw) mw_776 mw_777 mw_65 mw_778 ⟨rfl, rfl⟩ hd_X9_isBlock rfl rfl ⟨Nat.le_of_ble_eq_true rfl, Nat.le_of_ble_eq_true rfl⟩ (Nat.le_of_ble_eq_true rfl) ⟨Nat.zero_le _, Nat.zero_le _⟩ dX9_listed_1 (fun r1 M1 H locs hw hP hS => ?_)
  refine lv_if_eq (pc := 4) (tgt := 14) hx hb dX9_listed_4 (by decide) (fun h => ?_) (fun h => ?_)
  · replace hw := if_t h hw
    refine lv_ldc (pc := 14) (own := RX9) (v := (-3000001 : Int32)) hx hb hown (hts _ mw_821) dX9_listed_14 ?_
    exact r_iret (pc := 16) C hP hS hw dX9_listed_16
  · replace hw := if_f h hw
    refine lv_iload_n (pc := 7) hx hb dX9_listed_7 rfl (lv_at hl 2 rfl) ?_
    refine r_cSI (pc := 8) (rest := []) (As := [.int a2]) C hl.1 hP hS (k_X9_isColumn l G hC  hw) mw_818 mw_819 mw_65 mw_820 ⟨rfl, rfl⟩ hd_X9_isColumn rfl rfl ⟨Nat.le_of_ble_eq_true rfl, Nat.le_of_ble_eq_true rfl⟩ (Nat.le_of_ble_eq_true rfl) ⟨Nat.zero_le _, Nat.zero_le _⟩ dX9_listed_8 (fun r8 M8 H locs hw hP hS => ?_)
    refine lv_if_ne (pc := 11) (tgt := 17) hx hb dX9_listed_11 (by decide) (fun h => ?_) (fun h => ?_)
    · replace hw := if_f h hw
      refine lv_iload (pc := 17) hx hb dX9_listed_17 (lv_at hl 4 rfl) ?_
      refine lv_iconst (pc := 19) (v := (0 : Int32)) hx hb dX9_listed_19 (by decide) ?_
      refine lv_iconst (pc := 20) (v := (1 : Int32)) hx hb dX9_listed_20 (by decide) ?_
      refine r_cSI (pc := 21) (rest := []) (As := [.int a4, .int (0 : Int32), .int (1 : Int32)]) C hl.1 hP hS (k_X9_in l G hC  hw) mw_779 mw_780 mw_65 mw_781 ⟨rfl, rfl⟩ hd_X9_in rfl rfl ⟨Nat.le_of_ble_eq_true rfl, Nat.le_of_ble_eq_true rfl⟩ (Nat.le_of_ble_eq_true rfl) ⟨Nat.zero_le _, Nat.zero_le _⟩ dX9_listed_21 (fun r21 M21 H locs hw hP hS => ?_)
      refine lv_if_ne (pc := 24) (tgt := 30) hx hb dX9_listed_24 (by decide) (fun h => ?_) (fun h => ?_)
      · replace hw := if_f h hw
        refine lv_bipush (pc := 30) (v := (12 : Int32)) hx hb dX9_listed_30 (by decide) ?_
        refine lv_iconst (pc := 32) (v := (4 : Int32)) hx hb dX9_listed_32 (by decide) ?_
        refine lv_iload_n (pc := 33) hx hb dX9_listed_33 rfl (lv_at hl 1 rfl) ?_
        refine lv_imul (pc := 34) hx hb dX9_listed_34 ?_
        refine lv_iload_n (pc := 35) hx hb dX9_listed_35 rfl (lv_at hl 2 rfl) ?_
        refine lv_iadd (pc := 36) hx hb dX9_listed_36 ?_
        refine lv_imul (pc := 37) hx hb dX9_listed_37 ?_
        refine lv_topi (fun x5_38 ex5_38 => ?_)
        replace hw := hw x5_38 ex5_38
        refine lv_istore (pc := 38) (lv' := [(5, .int x5_38), (0, .ref (ad (29, 0, 0, 0))), (1, .int a1), (2, .int a2), (3, .int a3), (4, .int a4)]) hx hb dX9_listed_38 hl (by decide) rfl (fun ls hl => ?_)
        refine lv_iload_n (pc := 40) hx hb dX9_listed_40 rfl (lv_at hl 4 rfl) ?_
        refine lv_iconst (pc := 41) (v := (0 : Int32)) hx hb dX9_listed_41 (by decide) ?_
        refine lv_aload_n (pc := 42) hx hb dX9_listed_42 rfl (lv_at hl 1 rfl) ?_
        refine gf_718 (pc := 43) C hP h0 dX9_listed_43 ?_
        refine lv_iload (pc := 46) hx hb dX9_listed_46 (lv_at hl 0 rfl) ?_
        refine lv_iconst (pc := 48) (v := (3 : Int32)) hx hb dX9_listed_48 (by decide) ?_
        refine lv_iadd (pc := 49) hx hb dX9_listed_49 ?_
        refine r_ialdK (pc := 50) (n := 288) (k := (x5_38 + (3 : Int32)).toNatClampNeg) C hP (cl_29_2 hC h0) (fun _ _ _ _ => rfl) hw.1 rfl dX9_listed_50 ?_
        replace hw := hw.2
        refine lv_iconst (pc := 51) (v := (1 : Int32)) hx hb dX9_listed_51 (by decide) ?_
        refine lv_isub (pc := 52) hx hb dX9_listed_52 ?_
        refine r_cSI (pc := 53) (rest := []) (As := [.int a3, .int (0 : Int32), .int ((M21.1 (32, 0, 0, 0) ((x5_38 + (3 : Int32)).toNatClampNeg)) - (1 : Int32))]) C hl.1 hP hS (k_X9_in l G hC  hw) mw_779 mw_780 mw_65 mw_781 ⟨rfl, rfl⟩ hd_X9_in rfl rfl ⟨Nat.le_of_ble_eq_true rfl, Nat.le_of_ble_eq_true rfl⟩ (Nat.le_of_ble_eq_true rfl) ⟨Nat.zero_le _, Nat.zero_le _⟩ dX9_listed_53 (fun r53 M53 H locs hw hP hS => ?_)
        refine lv_if_eq (pc := 56) (tgt := 78) hx hb dX9_listed_56 (by decide) (fun h => ?_) (fun h => ?_)
        · replace hw := if_t h hw
          refine lv_ldc (pc := 78) (own := RX9) (v := (-2000000 : Int32)) hx hb hown (hts _ mw_715) dX9_listed_78 ?_
          exact r_iret (pc := 80) C hP hS hw dX9_listed_80
        · replace hw := if_f h hw
          refine lv_aload_n (pc := 59) hx hb dX9_listed_59 rfl (lv_at hl 1 rfl) ?_
          refine gf_718 (pc := 60) C hP h0 dX9_listed_60 ?_
          refine lv_iload (pc := 63) hx hb dX9_listed_63 (lv_at hl 0 rfl) ?_
          refine lv_iconst (pc := 65) (v := (4 : Int32)) hx hb dX9_listed_65 (by decide) ?_
          refine lv_iadd (pc := 66) hx hb dX9_listed_66 ?_
          refine lv_iconst (pc := 67) (v := (4 : Int32)) hx hb dX9_listed_67 (by decide) ?_
          refine lv_iload (pc := 68) hx hb dX9_listed_68 (lv_at hl 5 rfl) ?_
          refine lv_imul (pc := 70) hx hb dX9_listed_70 ?_
          refine lv_iadd (pc := 71) hx hb dX9_listed_71 ?_
          refine lv_iload_n (pc := 72) hx hb dX9_listed_72 rfl (lv_at hl 4 rfl) ?_
          refine lv_iadd (pc := 73) hx hb dX9_listed_73 ?_
          refine r_ialdK (pc := 74) (n := 288) (k := (((x5_38 + (4 : Int32)) + ((4 : Int32) * a4)) + a3).toNatClampNeg) C hP (cl_29_2 hC h0) (fun _ _ _ _ => rfl) hw.1 rfl dX9_listed_74 ?_
          replace hw := hw.2
          refine lv_goto (pc := 75) (tgt := 80) hx hb dX9_listed_75 (by decide) ?_
          exact r_iret (pc := 80) C hP hS hw dX9_listed_80
      · replace hw := if_t h hw
        refine lv_ldc (pc := 27) (own := RX9) (v := (-3000002 : Int32)) hx hb hown (hts _ mw_826) dX9_listed_27 ?_
        exact r_iret (pc := 29) C hP hS hw dX9_listed_29
    · replace hw := if_t h hw
      refine lv_ldc (pc := 14) (own := RX9) (v := (-3000001 : Int32)) hx hb hown (hts _ mw_821) dX9_listed_14 ?_
      exact r_iret (pc := 16) C hP hS hw dX9_listed_16
end
theorem k_X9_listed (l : Launch) (G : GG) {I : ix → Prop} {ad : ix → Nat} (hC : clo I) {a1 : Int32} {a2 : Int32} {a3 : Int32} {a4 : Int32} (h0 : I (29, 0, 0, 0)) {Q : Int32 → Mem → Prop} {M : Mem} (hw : w_X9_listed a1 a2 a3 a4 Q M) : Met l yX9_listed (wW yX9_listed cX9_listed 6 (some .int)) rm_X9_listed (va_Pc [.ref (ad (29, 0, 0, 0)), .int a1, .int a2, .int a3, .int a4] (fun U => wd G I ad M U.heap ∧ wK G U)) (qI G I ad Q) 0 0 (fA I ad) := met_of (by decide +kernel) (Nat.le_of_ble_eq_true rfl) (fun p e s m below meth c C hP hS ls hl => j_X9_listed_0 C hC h0 _ _ _ _ hw hP hS hl)
section
variable {p : Program} {l : Launch} {e : Env} {s : State} {m : MethodId} {args : Array Value} {below : List Frame} {meth : Method} {c : Code} 
variable  {G : GG} {I : ix → Prop} {ad : ix → Nat}
set_option maxHeartbeats 4000000 in
set_option maxRecDepth 100000 in
theorem j_X9_say_0 {a1 : Int32} (C : cx p s m args meth c cX9_say 2 (some .int) RX9 G) (hC : clo I) (h0 : I (29, 0, 0, 0)) {Q : Int32 → Mem → Prop} : ∀ (M : Mem) (H : Heap) (locs : List Loc) (ls : Array Slot), w_X9_say a1 Q M → wd G I ad M H → va_S (fA I ad) s.heap H locs → lv_has ls 2 [(0, .ref (ad (29, 0, 0, 0))), (1, .int a1)] → W p l e rm_X9_say s m args below meth c H locs 0 0 (MQ below (qI G I ad Q) args s 0 0 (fA I ad)) (F0 m 0 ls []) := by
  have hx := C.1
  have hb := C.2.1
  have hown := C.2.2.2.1
  have hts := C.2.2.2.2.1
  intro M H locs ls hw hP hS hl
  unfold w_X9_say at hw
  refine lv_iload_n (pc := 0) hx hb dX9_say_0 rfl (lv_at hl 1 rfl) ?_
  refine lv_bipush (pc := 1) (v := (33 : Int32)) hx hb dX9_say_1 (by decide) ?_
  refine lv_bipush (pc := 3) (v := (126 : Int32)) hx hb dX9_say_3 (by decide) ?_
  refine r_cSI (pc := 5) (rest := []) (As := [.int a1, .int (33 : Int32), .int (126 : Int32)]) C hl.1 hP hS (k_X9_in l G hC  hw) mw_779 mw_780 mw_65 mw_781 ⟨rfl, rfl⟩ hd_X9_in rfl rfl ⟨Nat.le_of_ble_eq_true rfl, Nat.le_of_ble_eq_true rfl⟩ (Nat.le_of_ble_eq_true rfl) ⟨Nat.zero_le _, Nat.zero_le _⟩ dX9_say_5 (fun r5 M5 H locs hw hP hS => ?_)
  refine lv_if_ne (pc := 8) (tgt := 14) hx hb dX9_say_8 (by decide) (fun h => ?_) (fun h => ?_)
  · replace hw := if_f h hw
    refine lv_aload_n (pc := 14) hx hb dX9_say_14 rfl (lv_at hl 0 rfl) ?_
    refine gf_720 (pc := 15) C hP h0 dX9_say_15 ?_
    refine lv_bipush (pc := 18) (v := (60 : Int32)) hx hb dX9_say_18 (by decide) ?_
    refine lv_icmp_ne (pc := 20) (tgt := 26) hx hb dX9_say_20 (by decide) (fun h => ?_) (fun h => ?_)
    · replace hw := if_f h hw
      refine lv_aload_n (pc := 26) hx hb dX9_say_26 rfl (lv_at hl 0 rfl) ?_
      refine gf_721 (pc := 27) C hP h0 dX9_say_27 ?_
      refine lv_aload_n (pc := 30) hx hb dX9_say_30 rfl (lv_at hl 0 rfl) ?_
      refine gf_720 (pc := 31) C hP h0 dX9_say_31 ?_
      refine lv_iload_n (pc := 34) hx hb dX9_say_34 rfl (lv_at hl 1 rfl) ?_
      refine r_iastK (pc := 35) (n := 60) (k := (M5.1 (29, 0, 0, 0) 4).toNatClampNeg) C hP hS (cl_29_5 hC h0) (fun _ _ _ _ => rfl) hw.1 rfl dX9_say_35 (fun H locs hP hS => ?_)
      replace hw := hw.2
      refine lv_aload_n (pc := 36) hx hb dX9_say_36 rfl (lv_at hl 0 rfl) ?_
      refine lv_dup (pc := 37) hx hb dX9_say_37 rfl ?_
      refine gf_720 (pc := 38) C hP h0 dX9_say_38 ?_
      refine lv_iconst (pc := 41) (v := (1 : Int32)) hx hb dX9_say_41 (by decide) ?_
      refine lv_iadd (pc := 42) hx hb dX9_say_42 ?_
      refine pf_720 (pc := 43) C hP hS h0 dX9_say_43 (fun H locs hP hS => ?_)
      obtain ⟨M43, eM43⟩ : ∃ z : Mem, z = (mu (mu M5 (34, 0, 0, 0) ((M5.1 (29, 0, 0, 0) 4).toNatClampNeg) a1) (29, 0, 0, 0) 4 (((mu M5 (34, 0, 0, 0) ((M5.1 (29, 0, 0, 0) 4).toNatClampNeg) a1).1 (29, 0, 0, 0) 4) + (1 : Int32))) := ⟨_, rfl⟩
      replace hP : wd G I ad M43 H := by rw [eM43]; exact hP
      replace hw := hw M43 eM43
      refine lv_aload_n (pc := 46) hx hb dX9_say_46 rfl (lv_at hl 0 rfl) ?_
      refine gf_720 (pc := 47) C hP h0 dX9_say_47 ?_
      exact r_iret (pc := 50) C hP hS hw dX9_say_50
    · replace hw := if_t h hw
      refine lv_bipush (pc := 23) (v := (-4 : Int32)) hx hb dX9_say_23 (by decide) ?_
      exact r_iret (pc := 25) C hP hS hw dX9_say_25
  · replace hw := if_t h hw
    refine lv_bipush (pc := 11) (v := (-2 : Int32)) hx hb dX9_say_11 (by decide) ?_
    exact r_iret (pc := 13) C hP hS hw dX9_say_13
end
theorem k_X9_say (l : Launch) (G : GG) {I : ix → Prop} {ad : ix → Nat} (hC : clo I) {a1 : Int32} (h0 : I (29, 0, 0, 0)) {Q : Int32 → Mem → Prop} {M : Mem} (hw : w_X9_say a1 Q M) : Met l yX9_say (wW yX9_say cX9_say 2 (some .int)) rm_X9_say (va_Pc [.ref (ad (29, 0, 0, 0)), .int a1] (fun U => wd G I ad M U.heap ∧ wK G U)) (qI G I ad Q) 0 0 (fA I ad) := met_of (by decide +kernel) (Nat.le_of_ble_eq_true rfl) (fun p e s m below meth c C hP hS ls hl => j_X9_say_0 C hC h0 _ _ _ _ hw hP hS hl)
section
variable {p : Program} {l : Launch} {e : Env} {s : State} {m : MethodId} {args : Array Value} {below : List Frame} {meth : Method} {c : Code} 
variable  {G : GG} {I : ix → Prop} {ad : ix → Nat}
set_option maxHeartbeats 4000000 in
set_option maxRecDepth 100000 in
theorem j_X9_wipe_0 (C : cx p s m args meth c cX9_wipe 2 (some .int) RX9 G) (hC : clo I) (h0 : I (29, 0, 0, 0)) {Q : Int32 → Mem → Prop} : ∀ (M : Mem) (H : Heap) (locs : List Loc) (ls : Array Slot), w_X9_wipe Q M → wd G I ad M H → va_S (fA I ad) s.heap H locs → lv_has ls 2 [(0, .ref (ad (29, 0, 0, 0)))] → W p l e rm_X9_wipe s m args below meth c H locs 0 0 (MQ below (qI G I ad Q) args s 0 0 (fA I ad)) (F0 m 0 ls []) := by
  have hx := C.1
  have hb := C.2.1
  have hown := C.2.2.2.1
  have hts := C.2.2.2.2.1
  intro M H locs ls hw hP hS hl
  unfold w_X9_wipe at hw
  refine lv_aload_n (pc := 0) hx hb dX9_wipe_0 rfl (lv_at hl 0 rfl) ?_
  refine gf_720 (pc := 1) C hP h0 dX9_wipe_1 ?_
  refine lv_topi (fun x1_4 ex1_4 => ?_)
  replace hw := hw x1_4 ex1_4
  refine lv_istore_n (pc := 4) (lv' := [(1, .int x1_4), (0, .ref (ad (29, 0, 0, 0)))]) hx hb dX9_wipe_4 rfl hl (by decide) rfl (fun ls hl => ?_)
  refine lv_aload_n (pc := 5) hx hb dX9_wipe_5 rfl (lv_at hl 1 rfl) ?_
  refine lv_iconst (pc := 6) (v := (0 : Int32)) hx hb dX9_wipe_6 (by decide) ?_
  refine pf_720 (pc := 7) C hP hS h0 dX9_wipe_7 (fun H locs hP hS => ?_)
  refine lv_iload_n (pc := 10) hx hb dX9_wipe_10 rfl (lv_at hl 0 rfl) ?_
  exact r_iret (pc := 11) C hP hS hw dX9_wipe_11
end
theorem k_X9_wipe (l : Launch) (G : GG) {I : ix → Prop} {ad : ix → Nat} (hC : clo I) (h0 : I (29, 0, 0, 0)) {Q : Int32 → Mem → Prop} {M : Mem} (hw : w_X9_wipe Q M) : Met l yX9_wipe (wW yX9_wipe cX9_wipe 2 (some .int)) rm_X9_wipe (va_Pc [.ref (ad (29, 0, 0, 0))] (fun U => wd G I ad M U.heap ∧ wK G U)) (qI G I ad Q) 0 0 (fA I ad) := met_of (by decide +kernel) (Nat.le_of_ble_eq_true rfl) (fun p e s m below meth c C hP hS ls hl => j_X9_wipe_0 C hC h0 _ _ _ _ hw hP hS hl)
section
variable {p : Program} {l : Launch} {e : Env} {s : State} {m : MethodId} {args : Array Value} {below : List Frame} {meth : Method} {c : Code} 
variable  {G : GG} {I : ix → Prop} {ad : ix → Nat}
set_option maxHeartbeats 4000000 in
set_option maxRecDepth 100000 in
theorem j_X9_termOf_0 {a0 : Int32} (C : cx p s m args meth c cX9_termOf 1 (some .int) RX9 G) (hC : clo I) {Q : Int32 → Mem → Prop} : ∀ (M : Mem) (H : Heap) (locs : List Loc) (ls : Array Slot), w_X9_termOf a0 Q M → wd G I ad M H → va_S (fA I ad) s.heap H locs → lv_has ls 1 [(0, .int a0)] → W p l e rm_X9_termOf s m args below meth c H locs 0 0 (MQ below (qI G I ad Q) args s 0 0 (fA I ad)) (F0 m 0 ls []) := by
  have hx := C.1
  have hb := C.2.1
  have hown := C.2.2.2.1
  have hts := C.2.2.2.2.1
  intro M H locs ls hw hP hS hl
  unfold w_X9_termOf at hw
  refine lv_iload_n (pc := 0) hx hb dX9_termOf_0 rfl (lv_at hl 0 rfl) ?_
  refine lv_bipush (pc := 1) (v := (97 : Int32)) hx hb dX9_termOf_1 (by decide) ?_
  refine lv_bipush (pc := 3) (v := (100 : Int32)) hx hb dX9_termOf_3 (by decide) ?_
  refine r_cSI (pc := 5) (rest := []) (As := [.int a0, .int (97 : Int32), .int (100 : Int32)]) C hl.1 hP hS (k_X9_in l G hC  hw) mw_779 mw_780 mw_65 mw_781 ⟨rfl, rfl⟩ hd_X9_in rfl rfl ⟨Nat.le_of_ble_eq_true rfl, Nat.le_of_ble_eq_true rfl⟩ (Nat.le_of_ble_eq_true rfl) ⟨Nat.zero_le _, Nat.zero_le _⟩ dX9_termOf_5 (fun r5 M5 H locs hw hP hS => ?_)
  refine lv_if_eq (pc := 8) (tgt := 13) hx hb dX9_termOf_8 (by decide) (fun h => ?_) (fun h => ?_)
  · replace hw := if_t h hw
    refine lv_iload_n (pc := 13) hx hb dX9_termOf_13 rfl (lv_at hl 0 rfl) ?_
    refine lv_bipush (pc := 14) (v := (48 : Int32)) hx hb dX9_termOf_14 (by decide) ?_
    refine lv_bipush (pc := 16) (v := (57 : Int32)) hx hb dX9_termOf_16 (by decide) ?_
    refine r_cSI (pc := 18) (rest := []) (As := [.int a0, .int (48 : Int32), .int (57 : Int32)]) C hl.1 hP hS (k_X9_in l G hC  hw) mw_779 mw_780 mw_65 mw_781 ⟨rfl, rfl⟩ hd_X9_in rfl rfl ⟨Nat.le_of_ble_eq_true rfl, Nat.le_of_ble_eq_true rfl⟩ (Nat.le_of_ble_eq_true rfl) ⟨Nat.zero_le _, Nat.zero_le _⟩ dX9_termOf_18 (fun r18 M18 H locs hw hP hS => ?_)
    refine lv_if_eq (pc := 21) (tgt := 26) hx hb dX9_termOf_21 (by decide) (fun h => ?_) (fun h => ?_)
    · replace hw := if_t h hw
      refine lv_iload_n (pc := 26) hx hb dX9_termOf_26 rfl (lv_at hl 0 rfl) ?_
      by_cases hk0 : a0 = (35 : Int32)
      · replace hw := if_t hk0 hw
        refine lv_lookup (pc := 27) (tgt := 92) (off := 65) hx hb dX9_termOf_27 (by decide) (by rw [hk0]; rfl) (by decide) ?_
        refine lv_iconst (pc := 92) (v := (3 : Int32)) hx hb dX9_termOf_92 (by decide) ?_
        exact r_iret (pc := 93) C hP hS hw dX9_termOf_93
      · replace hw := if_f hk0 hw
        by_cases hk1 : a0 = (37 : Int32)
        · replace hw := if_t hk1 hw
          refine lv_lookup (pc := 27) (tgt := 104) (off := 77) hx hb dX9_termOf_27 (by decide) (by rw [hk1]; rfl) (by decide) ?_
          refine lv_bipush (pc := 104) (v := (8 : Int32)) hx hb dX9_termOf_104 (by decide) ?_
          exact r_iret (pc := 106) C hP hS hw dX9_termOf_106
        · replace hw := if_f hk1 hw
          by_cases hk2 : a0 = (42 : Int32)
          · replace hw := if_t hk2 hw
            refine lv_lookup (pc := 27) (tgt := 101) (off := 74) hx hb dX9_termOf_27 (by decide) (by rw [hk2]; rfl) (by decide) ?_
            refine lv_bipush (pc := 101) (v := (7 : Int32)) hx hb dX9_termOf_101 (by decide) ?_
            exact r_iret (pc := 103) C hP hS hw dX9_termOf_103
          · replace hw := if_f hk2 hw
            by_cases hk3 : a0 = (43 : Int32)
            · replace hw := if_t hk3 hw
              refine lv_lookup (pc := 27) (tgt := 96) (off := 69) hx hb dX9_termOf_27 (by decide) (by rw [hk3]; rfl) (by decide) ?_
              refine lv_iconst (pc := 96) (v := (5 : Int32)) hx hb dX9_termOf_96 (by decide) ?_
              exact r_iret (pc := 97) C hP hS hw dX9_termOf_97
            · replace hw := if_f hk3 hw
              by_cases hk4 : a0 = (45 : Int32)
              · replace hw := if_t hk4 hw
                refine lv_lookup (pc := 27) (tgt := 98) (off := 71) hx hb dX9_termOf_27 (by decide) (by rw [hk4]; rfl) (by decide) ?_
                refine lv_bipush (pc := 98) (v := (6 : Int32)) hx hb dX9_termOf_98 (by decide) ?_
                exact r_iret (pc := 100) C hP hS hw dX9_termOf_100
              · replace hw := if_f hk4 hw
                by_cases hk5 : a0 = (121 : Int32)
                · replace hw := if_t hk5 hw
                  refine lv_lookup (pc := 27) (tgt := 107) (off := 80) hx hb dX9_termOf_27 (by decide) (by rw [hk5]; rfl) (by decide) ?_
                  refine lv_bipush (pc := 107) (v := (9 : Int32)) hx hb dX9_termOf_107 (by decide) ?_
                  exact r_iret (pc := 109) C hP hS hw dX9_termOf_109
                · replace hw := if_f hk5 hw
                  by_cases hk6 : a0 = (126 : Int32)
                  · replace hw := if_t hk6 hw
                    refine lv_lookup (pc := 27) (tgt := 94) (off := 67) hx hb dX9_termOf_27 (by decide) (by rw [hk6]; rfl) (by decide) ?_
                    refine lv_iconst (pc := 94) (v := (4 : Int32)) hx hb dX9_termOf_94 (by decide) ?_
                    exact r_iret (pc := 95) C hP hS hw dX9_termOf_95
                  · replace hw := if_f hk6 hw
                    refine lv_lookup (pc := 27) (tgt := 110) (off := 83) hx hb dX9_termOf_27 (by decide) (by show Op.lookupswitch.offset [(35, 65), (37, 77), (42, 74), (43, 69), (45, 71), (121, 80), (126, 67)] 83 _ = _; rw [lv_osw (a := 35) hk0 rfl, lv_osw (a := 37) hk1 rfl, lv_osw (a := 42) hk2 rfl, lv_osw (a := 43) hk3 rfl, lv_osw (a := 45) hk4 rfl, lv_osw (a := 121) hk5 rfl, lv_osw (a := 126) hk6 rfl]; rfl) (by decide) ?_
                    refine lv_ldc (pc := 110) (own := RX9) (v := (-2000000 : Int32)) hx hb hown (hts _ mw_715) dX9_termOf_110 ?_
                    exact r_iret (pc := 112) C hP hS hw dX9_termOf_112
    · replace hw := if_f h hw
      refine lv_iconst (pc := 24) (v := (2 : Int32)) hx hb dX9_termOf_24 (by decide) ?_
      exact r_iret (pc := 25) C hP hS hw dX9_termOf_25
  · replace hw := if_f h hw
    refine lv_iconst (pc := 11) (v := (1 : Int32)) hx hb dX9_termOf_11 (by decide) ?_
    exact r_iret (pc := 12) C hP hS hw dX9_termOf_12
end
theorem k_X9_termOf (l : Launch) (G : GG) {I : ix → Prop} {ad : ix → Nat} (hC : clo I) {a0 : Int32} {Q : Int32 → Mem → Prop} {M : Mem} (hw : w_X9_termOf a0 Q M) : Met l yX9_termOf (wW yX9_termOf cX9_termOf 1 (some .int)) rm_X9_termOf (va_Pc [.int a0] (fun U => wd G I ad M U.heap ∧ wK G U)) (qI G I ad Q) 0 0 (fA I ad) := met_of (by decide +kernel) (Nat.le_of_ble_eq_true rfl) (fun p e s m below meth c C hP hS ls hl => j_X9_termOf_0 C hC  _ _ _ _ hw hP hS hl)
section
variable {p : Program} {l : Launch} {e : Env} {s : State} {m : MethodId} {args : Array Value} {below : List Frame} {meth : Method} {c : Code} 
variable  {G : GG} {I : ix → Prop} {ad : ix → Nat}
set_option maxHeartbeats 4000000 in
set_option maxRecDepth 100000 in
theorem j_X9_truthOf_0 {a0 : Int32} (C : cx p s m args meth c cX9_truthOf 1 (some .int) RX9 G) (hC : clo I) {Q : Int32 → Mem → Prop} : ∀ (M : Mem) (H : Heap) (locs : List Loc) (ls : Array Slot), w_X9_truthOf a0 Q M → wd G I ad M H → va_S (fA I ad) s.heap H locs → lv_has ls 1 [(0, .int a0)] → W p l e rm_X9_truthOf s m args below meth c H locs 0 0 (MQ below (qI G I ad Q) args s 0 0 (fA I ad)) (F0 m 0 ls []) := by
  have hx := C.1
  have hb := C.2.1
  have hown := C.2.2.2.1
  have hts := C.2.2.2.2.1
  intro M H locs ls hw hP hS hl
  unfold w_X9_truthOf at hw
  refine lv_iload_n (pc := 0) hx hb dX9_truthOf_0 rfl (lv_at hl 0 rfl) ?_
  by_cases hk0 : a0 = (33 : Int32)
  · replace hw := if_t hk0 hw
    refine lv_lookup (pc := 1) (tgt := 72) (off := 71) hx hb dX9_truthOf_1 (by decide) (by rw [hk0]; rfl) (by decide) ?_
    refine lv_bipush (pc := 72) (v := (14 : Int32)) hx hb dX9_truthOf_72 (by decide) ?_
    exact r_iret (pc := 74) C hP hS hw dX9_truthOf_74
  · replace hw := if_f hk0 hw
    by_cases hk1 : a0 = (38 : Int32)
    · replace hw := if_t hk1 hw
      refine lv_lookup (pc := 1) (tgt := 66) (off := 65) hx hb dX9_truthOf_1 (by decide) (by rw [hk1]; rfl) (by decide) ?_
      refine lv_bipush (pc := 66) (v := (12 : Int32)) hx hb dX9_truthOf_66 (by decide) ?_
      exact r_iret (pc := 68) C hP hS hw dX9_truthOf_68
    · replace hw := if_f hk1 hw
      by_cases hk2 : a0 = (60 : Int32)
      · replace hw := if_t hk2 hw
        refine lv_lookup (pc := 1) (tgt := 60) (off := 59) hx hb dX9_truthOf_1 (by decide) (by rw [hk2]; rfl) (by decide) ?_
        refine lv_bipush (pc := 60) (v := (10 : Int32)) hx hb dX9_truthOf_60 (by decide) ?_
        exact r_iret (pc := 62) C hP hS hw dX9_truthOf_62
      · replace hw := if_f hk2 hw
        by_cases hk3 : a0 = (61 : Int32)
        · replace hw := if_t hk3 hw
          refine lv_lookup (pc := 1) (tgt := 63) (off := 62) hx hb dX9_truthOf_1 (by decide) (by rw [hk3]; rfl) (by decide) ?_
          refine lv_bipush (pc := 63) (v := (11 : Int32)) hx hb dX9_truthOf_63 (by decide) ?_
          exact r_iret (pc := 65) C hP hS hw dX9_truthOf_65
        · replace hw := if_f hk3 hw
          by_cases hk4 : a0 = (109 : Int32)
          · replace hw := if_t hk4 hw
            refine lv_lookup (pc := 1) (tgt := 75) (off := 74) hx hb dX9_truthOf_1 (by decide) (by rw [hk4]; rfl) (by decide) ?_
            refine lv_bipush (pc := 75) (v := (15 : Int32)) hx hb dX9_truthOf_75 (by decide) ?_
            exact r_iret (pc := 77) C hP hS hw dX9_truthOf_77
          · replace hw := if_f hk4 hw
            by_cases hk5 : a0 = (124 : Int32)
            · replace hw := if_t hk5 hw
              refine lv_lookup (pc := 1) (tgt := 69) (off := 68) hx hb dX9_truthOf_1 (by decide) (by rw [hk5]; rfl) (by decide) ?_
              refine lv_bipush (pc := 69) (v := (13 : Int32)) hx hb dX9_truthOf_69 (by decide) ?_
              exact r_iret (pc := 71) C hP hS hw dX9_truthOf_71
            · replace hw := if_f hk5 hw
              refine lv_lookup (pc := 1) (tgt := 78) (off := 77) hx hb dX9_truthOf_1 (by decide) (by show Op.lookupswitch.offset [(33, 71), (38, 65), (60, 59), (61, 62), (109, 74), (124, 68)] 77 _ = _; rw [lv_osw (a := 33) hk0 rfl, lv_osw (a := 38) hk1 rfl, lv_osw (a := 60) hk2 rfl, lv_osw (a := 61) hk3 rfl, lv_osw (a := 109) hk4 rfl, lv_osw (a := 124) hk5 rfl]; rfl) (by decide) ?_
              refine lv_ldc (pc := 78) (own := RX9) (v := (-2000000 : Int32)) hx hb hown (hts _ mw_715) dX9_truthOf_78 ?_
              exact r_iret (pc := 80) C hP hS hw dX9_truthOf_80
end
theorem k_X9_truthOf (l : Launch) (G : GG) {I : ix → Prop} {ad : ix → Nat} (hC : clo I) {a0 : Int32} {Q : Int32 → Mem → Prop} {M : Mem} (hw : w_X9_truthOf a0 Q M) : Met l yX9_truthOf (wW yX9_truthOf cX9_truthOf 1 (some .int)) rm_X9_truthOf (va_Pc [.int a0] (fun U => wd G I ad M U.heap ∧ wK G U)) (qI G I ad Q) 0 0 (fA I ad) := met_of (by decide +kernel) (Nat.le_of_ble_eq_true rfl) (fun p e s m below meth c C hP hS ls hl => j_X9_truthOf_0 C hC  _ _ _ _ hw hP hS hl)
section
variable {p : Program} {l : Launch} {e : Env} {s : State} {m : MethodId} {args : Array Value} {below : List Frame} {meth : Method} {c : Code} 
variable  {G : GG} {I : ix → Prop} {ad : ix → Nat}
set_option maxHeartbeats 4000000 in
set_option maxRecDepth 100000 in
theorem j_X9_inner_0 {a0 : Int32} (C : cx p s m args meth c cX9_inner 1 (some .int) RX9 G) (hC : clo I) {Q : Int32 → Mem → Prop} : ∀ (M : Mem) (H : Heap) (locs : List Loc) (ls : Array Slot), w_X9_inner a0 Q M → wd G I ad M H → va_S (fA I ad) s.heap H locs → lv_has ls 1 [(0, .int a0)] → W p l e rm_X9_inner s m args below meth c H locs 0 0 (MQ below (qI G I ad Q) args s 0 0 (fA I ad)) (F0 m 0 ls []) := by
  have hx := C.1
  have hb := C.2.1
  have hown := C.2.2.2.1
  have hts := C.2.2.2.2.1
  intro M H locs ls hw hP hS hl
  unfold w_X9_inner at hw
  refine lv_iload_n (pc := 0) hx hb dX9_inner_0 rfl (lv_at hl 0 rfl) ?_
  refine lv_iconst (pc := 1) (v := (4 : Int32)) hx hb dX9_inner_1 (by decide) ?_
  refine lv_icmp_eq (pc := 2) (tgt := 23) hx hb dX9_inner_2 (by decide) (fun h => ?_) (fun h => ?_)
  · replace hw := if_t h hw
    refine lv_iconst (pc := 23) (v := (1 : Int32)) hx hb dX9_inner_23 (by decide) ?_
    refine lv_goto (pc := 24) (tgt := 53) hx hb dX9_inner_24 (by decide) ?_
    exact r_iret (pc := 53) C hP hS hw dX9_inner_53
  · replace hw := if_f h hw
    refine lv_iload_n (pc := 5) hx hb dX9_inner_5 rfl (lv_at hl 0 rfl) ?_
    refine lv_bipush (pc := 6) (v := (8 : Int32)) hx hb dX9_inner_6 (by decide) ?_
    refine lv_icmp_eq (pc := 8) (tgt := 23) hx hb dX9_inner_8 (by decide) (fun h => ?_) (fun h => ?_)
    · replace hw := if_t h hw
      refine lv_iconst (pc := 23) (v := (1 : Int32)) hx hb dX9_inner_23 (by decide) ?_
      refine lv_goto (pc := 24) (tgt := 53) hx hb dX9_inner_24 (by decide) ?_
      exact r_iret (pc := 53) C hP hS hw dX9_inner_53
    · replace hw := if_f h hw
      refine lv_iload_n (pc := 11) hx hb dX9_inner_11 rfl (lv_at hl 0 rfl) ?_
      refine lv_bipush (pc := 12) (v := (9 : Int32)) hx hb dX9_inner_12 (by decide) ?_
      refine lv_icmp_eq (pc := 14) (tgt := 23) hx hb dX9_inner_14 (by decide) (fun h => ?_) (fun h => ?_)
      · replace hw := if_t h hw
        refine lv_iconst (pc := 23) (v := (1 : Int32)) hx hb dX9_inner_23 (by decide) ?_
        refine lv_goto (pc := 24) (tgt := 53) hx hb dX9_inner_24 (by decide) ?_
        exact r_iret (pc := 53) C hP hS hw dX9_inner_53
      · replace hw := if_f h hw
        refine lv_iload_n (pc := 17) hx hb dX9_inner_17 rfl (lv_at hl 0 rfl) ?_
        refine lv_bipush (pc := 18) (v := (14 : Int32)) hx hb dX9_inner_18 (by decide) ?_
        refine lv_icmp_ne (pc := 20) (tgt := 27) hx hb dX9_inner_20 (by decide) (fun h => ?_) (fun h => ?_)
        · replace hw := if_f h hw
          refine lv_iload_n (pc := 27) hx hb dX9_inner_27 rfl (lv_at hl 0 rfl) ?_
          refine lv_iconst (pc := 28) (v := (1 : Int32)) hx hb dX9_inner_28 (by decide) ?_
          refine lv_icmp_eq (pc := 29) (tgt := 48) hx hb dX9_inner_29 (by decide) (fun h => ?_) (fun h => ?_)
          · replace hw := if_t h hw
            refine lv_iconst (pc := 48) (v := (0 : Int32)) hx hb dX9_inner_48 (by decide) ?_
            refine lv_goto (pc := 49) (tgt := 53) hx hb dX9_inner_49 (by decide) ?_
            exact r_iret (pc := 53) C hP hS hw dX9_inner_53
          · replace hw := if_f h hw
            refine lv_iload_n (pc := 32) hx hb dX9_inner_32 rfl (lv_at hl 0 rfl) ?_
            refine lv_iconst (pc := 33) (v := (2 : Int32)) hx hb dX9_inner_33 (by decide) ?_
            refine lv_icmp_eq (pc := 34) (tgt := 48) hx hb dX9_inner_34 (by decide) (fun h => ?_) (fun h => ?_)
            · replace hw := if_t h hw
              refine lv_iconst (pc := 48) (v := (0 : Int32)) hx hb dX9_inner_48 (by decide) ?_
              refine lv_goto (pc := 49) (tgt := 53) hx hb dX9_inner_49 (by decide) ?_
              exact r_iret (pc := 53) C hP hS hw dX9_inner_53
            · replace hw := if_f h hw
              refine lv_iload_n (pc := 37) hx hb dX9_inner_37 rfl (lv_at hl 0 rfl) ?_
              refine lv_iconst (pc := 38) (v := (3 : Int32)) hx hb dX9_inner_38 (by decide) ?_
              refine lv_icmp_eq (pc := 39) (tgt := 48) hx hb dX9_inner_39 (by decide) (fun h => ?_) (fun h => ?_)
              · replace hw := if_t h hw
                refine lv_iconst (pc := 48) (v := (0 : Int32)) hx hb dX9_inner_48 (by decide) ?_
                refine lv_goto (pc := 49) (tgt := 53) hx hb dX9_inner_49 (by decide) ?_
                exact r_iret (pc := 53) C hP hS hw dX9_inner_53
              · replace hw := if_f h hw
                refine lv_iload_n (pc := 42) hx hb dX9_inner_42 rfl (lv_at hl 0 rfl) ?_
                refine lv_bipush (pc := 43) (v := (15 : Int32)) hx hb dX9_inner_43 (by decide) ?_
                refine lv_icmp_ne (pc := 45) (tgt := 52) hx hb dX9_inner_45 (by decide) (fun h => ?_) (fun h => ?_)
                · replace hw := if_f h hw
                  refine lv_iconst (pc := 52) (v := (2 : Int32)) hx hb dX9_inner_52 (by decide) ?_
                  exact r_iret (pc := 53) C hP hS hw dX9_inner_53
                · replace hw := if_t h hw
                  refine lv_iconst (pc := 48) (v := (0 : Int32)) hx hb dX9_inner_48 (by decide) ?_
                  refine lv_goto (pc := 49) (tgt := 53) hx hb dX9_inner_49 (by decide) ?_
                  exact r_iret (pc := 53) C hP hS hw dX9_inner_53
        · replace hw := if_t h hw
          refine lv_iconst (pc := 23) (v := (1 : Int32)) hx hb dX9_inner_23 (by decide) ?_
          refine lv_goto (pc := 24) (tgt := 53) hx hb dX9_inner_24 (by decide) ?_
          exact r_iret (pc := 53) C hP hS hw dX9_inner_53
end
theorem k_X9_inner (l : Launch) (G : GG) {I : ix → Prop} {ad : ix → Nat} (hC : clo I) {a0 : Int32} {Q : Int32 → Mem → Prop} {M : Mem} (hw : w_X9_inner a0 Q M) : Met l yX9_inner (wW yX9_inner cX9_inner 1 (some .int)) rm_X9_inner (va_Pc [.int a0] (fun U => wd G I ad M U.heap ∧ wK G U)) (qI G I ad Q) 0 0 (fA I ad) := met_of (by decide +kernel) (Nat.le_of_ble_eq_true rfl) (fun p e s m below meth c C hP hS ls hl => j_X9_inner_0 C hC  _ _ _ _ hw hP hS hl)
section
variable {p : Program} {l : Launch} {e : Env} {s : State} {m : MethodId} {args : Array Value} {below : List Frame} {meth : Method} {c : Code} 
variable  {G : GG} {I : ix → Prop} {ad : ix → Nat}
set_option maxHeartbeats 4000000 in
set_option maxRecDepth 100000 in
theorem j_X9_read_384 (C : cx p s m args meth c cX9_read 7 (some .int) RX9 G) (hC : clo I) (h0 : I (29, 0, 0, 0)) {Q : Int32 → Mem → Prop} {B301 : Int32 → Mem → Prop} (hB301 : ∀ (x2 : Int32) (M : Mem) (H : Heap) (locs : List Loc) (ls : Array Slot), B301 x2 M → wd G I ad M H → va_S (fA I ad) s.heap H locs → lv_has ls 7 [(0, .ref (ad (29, 0, 0, 0))), (2, .int x2)] → W p l e rm_X9_read s m args below meth c H locs 0 0 (MQ below (qI G I ad Q) args s 0 0 (fA I ad)) (F0 m 301 ls [])) : ∀ (x2 : Int32) (t0 : Int32) (M : Mem) (H : Heap) (locs : List Loc) (ls : Array Slot), w_X9_read_384 Q B301 x2 t0 M → wd G I ad M H → va_S (fA I ad) s.heap H locs → lv_has ls 7 [(0, .ref (ad (29, 0, 0, 0))), (2, .int x2)] → W p l e rm_X9_read s m args below meth c H locs 0 0 (MQ below (qI G I ad Q) args s 0 0 (fA I ad)) (F0 m 384 ls [.int t0]) := by
  have hx := C.1
  have hb := C.2.1
  have hown := C.2.2.2.1
  have hts := C.2.2.2.2.1
  intro x2 t0 M H locs ls hw hP hS hl
  unfold w_X9_read_384 at hw
  refine lv_istore (pc := 384) (lv' := [(4, .int t0), (0, .ref (ad (29, 0, 0, 0))), (2, .int x2)]) hx hb dX9_read_384 hl (by decide) rfl (fun ls hl => ?_)
  refine lv_aload_n (pc := 386) hx hb dX9_read_386 rfl (lv_at hl 1 rfl) ?_
  refine gf_725 (pc := 387) C hP h0 dX9_read_387 ?_
  refine lv_iload_n (pc := 390) hx hb dX9_read_390 rfl (lv_at hl 2 rfl) ?_
  refine lv_aload_n (pc := 391) hx hb dX9_read_391 rfl (lv_at hl 1 rfl) ?_
  refine gf_722 (pc := 392) C hP h0 dX9_read_392 ?_
  refine lv_iload_n (pc := 395) hx hb dX9_read_395 rfl (lv_at hl 2 rfl) ?_
  refine r_ialdK (pc := 396) (n := 60) (k := x2.toNatClampNeg) C hP (cl_29_6 hC h0) (fun _ _ _ _ => rfl) hw.1 rfl dX9_read_396 ?_
  replace hw := hw.2
  refine lv_iconst (pc := 397) (v := (3 : Int32)) hx hb dX9_read_397 (by decide) ?_
  refine lv_icmp_ne (pc := 398) (tgt := 407) hx hb dX9_read_398 (by decide) (fun h => ?_) (fun h => ?_)
  · replace hw := if_f h hw
    refine lv_aload_n (pc := 407) hx hb dX9_read_407 rfl (lv_at hl 1 rfl) ?_
    refine gf_722 (pc := 408) C hP h0 dX9_read_408 ?_
    refine lv_iload_n (pc := 411) hx hb dX9_read_411 rfl (lv_at hl 2 rfl) ?_
    refine r_ialdK (pc := 412) (n := 60) (k := x2.toNatClampNeg) C hP (cl_29_6 hC h0) (fun _ _ _ _ => rfl) hw.1 rfl dX9_read_412 ?_
    replace hw := hw.2
    refine lv_bipush (pc := 413) (v := (8 : Int32)) hx hb dX9_read_413 (by decide) ?_
    refine lv_icmp_ne (pc := 415) (tgt := 425) hx hb dX9_read_415 (by decide) (fun h => ?_) (fun h => ?_)
    · replace hw := if_f h hw
      refine lv_aload_n (pc := 425) hx hb dX9_read_425 rfl (lv_at hl 1 rfl) ?_
      refine gf_722 (pc := 426) C hP h0 dX9_read_426 ?_
      refine lv_iload_n (pc := 429) hx hb dX9_read_429 rfl (lv_at hl 2 rfl) ?_
      refine r_ialdK (pc := 430) (n := 60) (k := x2.toNatClampNeg) C hP (cl_29_6 hC h0) (fun _ _ _ _ => rfl) hw.1 rfl dX9_read_430 ?_
      replace hw := hw.2
      refine lv_bipush (pc := 431) (v := (15 : Int32)) hx hb dX9_read_431 (by decide) ?_
      refine lv_icmp_ne (pc := 433) (tgt := 442) hx hb dX9_read_433 (by decide) (fun h => ?_) (fun h => ?_)
      · replace hw := if_f h hw
        refine lv_iload (pc := 442) hx hb dX9_read_442 (lv_at hl 0 rfl) ?_
        refine r_iastK (pc := 444) (n := 60) (k := x2.toNatClampNeg) C hP hS (cl_29_9 hC h0) (fun _ _ _ _ => rfl) hw.1 rfl dX9_read_444 (fun H locs hP hS => ?_)
        replace hw := hw.2
        refine lv_iinc (pc := 445) (v := x2 + (-1)) (lv' := [(2, .int (x2 + (-1))), (4, .int t0), (0, .ref (ad (29, 0, 0, 0)))]) hx hb dX9_read_445 hl (k := 2) rfl rfl (by decide) rfl (fun ls hl => ?_)
        refine lv_goto (pc := 448) (tgt := 301) hx hb dX9_read_448 (by decide) ?_
        exact hB301 (x2 + (-1)) (mu M (38, 0, 0, 0) (x2.toNatClampNeg) t0) _ _ _ hw hP hS (lv_sub hl [2, 0] rfl)
      · replace hw := if_t h hw
        refine lv_iload_n (pc := 436) hx hb dX9_read_436 rfl (lv_at hl 2 rfl) ?_
        refine lv_iconst (pc := 437) (v := (2 : Int32)) hx hb dX9_read_437 (by decide) ?_
        refine lv_iadd (pc := 438) hx hb dX9_read_438 ?_
        refine lv_goto (pc := 439) (tgt := 444) hx hb dX9_read_439 (by decide) ?_
        refine r_iastK (pc := 444) (n := 60) (k := x2.toNatClampNeg) C hP hS (cl_29_9 hC h0) (fun _ _ _ _ => rfl) hw.1 rfl dX9_read_444 (fun H locs hP hS => ?_)
        replace hw := hw.2
        refine lv_iinc (pc := 445) (v := x2 + (-1)) (lv' := [(2, .int (x2 + (-1))), (4, .int t0), (0, .ref (ad (29, 0, 0, 0)))]) hx hb dX9_read_445 hl (k := 2) rfl rfl (by decide) rfl (fun ls hl => ?_)
        refine lv_goto (pc := 448) (tgt := 301) hx hb dX9_read_448 (by decide) ?_
        exact hB301 (x2 + (-1)) (mu M (38, 0, 0, 0) (x2.toNatClampNeg) (x2 + (2 : Int32))) _ _ _ hw hP hS (lv_sub hl [2, 0] rfl)
    · replace hw := if_t h hw
      refine lv_iload (pc := 418) hx hb dX9_read_418 (lv_at hl 0 rfl) ?_
      refine lv_iconst (pc := 420) (v := (1 : Int32)) hx hb dX9_read_420 (by decide) ?_
      refine lv_iadd (pc := 421) hx hb dX9_read_421 ?_
      refine lv_goto (pc := 422) (tgt := 444) hx hb dX9_read_422 (by decide) ?_
      refine r_iastK (pc := 444) (n := 60) (k := x2.toNatClampNeg) C hP hS (cl_29_9 hC h0) (fun _ _ _ _ => rfl) hw.1 rfl dX9_read_444 (fun H locs hP hS => ?_)
      replace hw := hw.2
      refine lv_iinc (pc := 445) (v := x2 + (-1)) (lv' := [(2, .int (x2 + (-1))), (4, .int t0), (0, .ref (ad (29, 0, 0, 0)))]) hx hb dX9_read_445 hl (k := 2) rfl rfl (by decide) rfl (fun ls hl => ?_)
      refine lv_goto (pc := 448) (tgt := 301) hx hb dX9_read_448 (by decide) ?_
      exact hB301 (x2 + (-1)) (mu M (38, 0, 0, 0) (x2.toNatClampNeg) (t0 + (1 : Int32))) _ _ _ hw hP hS (lv_sub hl [2, 0] rfl)
  · replace hw := if_t h hw
    refine lv_iload_n (pc := 401) hx hb dX9_read_401 rfl (lv_at hl 2 rfl) ?_
    refine lv_iconst (pc := 402) (v := (4 : Int32)) hx hb dX9_read_402 (by decide) ?_
    refine lv_iadd (pc := 403) hx hb dX9_read_403 ?_
    refine lv_goto (pc := 404) (tgt := 444) hx hb dX9_read_404 (by decide) ?_
    refine r_iastK (pc := 444) (n := 60) (k := x2.toNatClampNeg) C hP hS (cl_29_9 hC h0) (fun _ _ _ _ => rfl) hw.1 rfl dX9_read_444 (fun H locs hP hS => ?_)
    replace hw := hw.2
    refine lv_iinc (pc := 445) (v := x2 + (-1)) (lv' := [(2, .int (x2 + (-1))), (4, .int t0), (0, .ref (ad (29, 0, 0, 0)))]) hx hb dX9_read_445 hl (k := 2) rfl rfl (by decide) rfl (fun ls hl => ?_)
    refine lv_goto (pc := 448) (tgt := 301) hx hb dX9_read_448 (by decide) ?_
    exact hB301 (x2 + (-1)) (mu M (38, 0, 0, 0) (x2.toNatClampNeg) (x2 + (4 : Int32))) _ _ _ hw hP hS (lv_sub hl [2, 0] rfl)
set_option maxHeartbeats 4000000 in
set_option maxRecDepth 100000 in
theorem j_X9_read_358 (C : cx p s m args meth c cX9_read 7 (some .int) RX9 G) (hC : clo I) (h0 : I (29, 0, 0, 0)) {Q : Int32 → Mem → Prop} {B301 : Int32 → Mem → Prop} (hB301 : ∀ (x2 : Int32) (M : Mem) (H : Heap) (locs : List Loc) (ls : Array Slot), B301 x2 M → wd G I ad M H → va_S (fA I ad) s.heap H locs → lv_has ls 7 [(0, .ref (ad (29, 0, 0, 0))), (2, .int x2)] → W p l e rm_X9_read s m args below meth c H locs 0 0 (MQ below (qI G I ad Q) args s 0 0 (fA I ad)) (F0 m 301 ls [])) : ∀ (x2 : Int32) (x3 : Int32) (t0 : Int32) (t1 : Int32) (M : Mem) (H : Heap) (locs : List Loc) (ls : Array Slot), w_X9_read_358 Q B301 x2 x3 t0 t1 M → wd G I ad M H → va_S (fA I ad) s.heap H locs → lv_has ls 7 [(0, .ref (ad (29, 0, 0, 0))), (2, .int x2), (3, .int x3)] → I (37, 0, 0, 0) → W p l e rm_X9_read s m args below meth c H locs 0 0 (MQ below (qI G I ad Q) args s 0 0 (fA I ad)) (F0 m 358 ls [.int t0, .int t1, .ref (ad (37, 0, 0, 0))]) := by
  have hx := C.1
  have hb := C.2.1
  have hown := C.2.2.2.1
  have hts := C.2.2.2.2.1
  intro x2 x3 t0 t1 M H locs ls hw hP hS hl ht2
  unfold w_X9_read_358 at hw
  refine r_iastK (pc := 358) (n := 60) (k := t1.toNatClampNeg) C hP hS ht2 (fun _ _ _ _ => rfl) hw.1 rfl dX9_read_358 (fun H locs hP hS => ?_)
  replace hw := hw.2
  refine lv_iload_n (pc := 359) hx hb dX9_read_359 rfl (lv_at hl 2 rfl) ?_
  refine lv_iconst (pc := 360) (v := (1 : Int32)) hx hb dX9_read_360 (by decide) ?_
  refine lv_icmp_le (pc := 361) (tgt := 378) hx hb dX9_read_361 (by decide) (fun h => ?_) (fun h => ?_)
  · replace hw := if_t h hw
    refine lv_aload_n (pc := 378) hx hb dX9_read_378 rfl (lv_at hl 0 rfl) ?_
    refine gf_724 (pc := 379) C hP h0 dX9_read_379 ?_
    refine lv_iload_n (pc := 382) hx hb dX9_read_382 rfl (lv_at hl 1 rfl) ?_
    refine r_ialdK (pc := 383) (n := 60) (k := x2.toNatClampNeg) C hP (cl_29_8 hC h0) (fun _ _ _ _ => rfl) hw.1 rfl dX9_read_383 ?_
    replace hw := hw.2
    exact j_X9_read_384 C hC h0 hB301 x2 ((mu M (37, 0, 0, 0) (t1.toNatClampNeg) t0).1 (37, 0, 0, 0) x2.toNatClampNeg) (mu M (37, 0, 0, 0) (t1.toNatClampNeg) t0) _ _ _ hw hP hS (lv_sub hl [0, 1] rfl)
  · replace hw := if_f h hw
    refine lv_aload_n (pc := 364) hx hb dX9_read_364 rfl (lv_at hl 0 rfl) ?_
    refine gf_725 (pc := 365) C hP h0 dX9_read_365 ?_
    refine lv_aload_n (pc := 368) hx hb dX9_read_368 rfl (lv_at hl 0 rfl) ?_
    refine gf_724 (pc := 369) C hP h0 dX9_read_369 ?_
    refine lv_iload_n (pc := 372) hx hb dX9_read_372 rfl (lv_at hl 1 rfl) ?_
    refine r_ialdK (pc := 373) (n := 60) (k := x2.toNatClampNeg) C hP (cl_29_8 hC h0) (fun _ _ _ _ => rfl) hw.1 rfl dX9_read_373 ?_
    replace hw := hw.2
    refine r_ialdK (pc := 374) (n := 60) (k := ((mu M (37, 0, 0, 0) (t1.toNatClampNeg) t0).1 (37, 0, 0, 0) x2.toNatClampNeg).toNatClampNeg) C hP (cl_29_9 hC h0) (fun _ _ _ _ => rfl) hw.1 rfl dX9_read_374 ?_
    replace hw := hw.2
    refine lv_goto (pc := 375) (tgt := 384) hx hb dX9_read_375 (by decide) ?_
    exact j_X9_read_384 C hC h0 hB301 x2 ((mu M (37, 0, 0, 0) (t1.toNatClampNeg) t0).1 (38, 0, 0, 0) (((mu M (37, 0, 0, 0) (t1.toNatClampNeg) t0).1 (37, 0, 0, 0) x2.toNatClampNeg).toNatClampNeg)) (mu M (37, 0, 0, 0) (t1.toNatClampNeg) t0) _ _ _ hw hP hS (lv_sub hl [0, 1] rfl)
set_option maxHeartbeats 4000000 in
set_option maxRecDepth 100000 in
theorem j_X9_read_301 (C : cx p s m args meth c cX9_read 7 (some .int) RX9 G) (hC : clo I) (h0 : I (29, 0, 0, 0)) {Q : Int32 → Mem → Prop} : ∀ (n : Nat), ∀ (x2 : Int32) (M : Mem) (H : Heap) (locs : List Loc) (ls : Array Slot), w_X9_read_301 Q n x2 M → wd G I ad M H → va_S (fA I ad) s.heap H locs → lv_has ls 7 [(0, .ref (ad (29, 0, 0, 0))), (2, .int x2)] → W p l e rm_X9_read s m args below meth c H locs 0 0 (MQ below (qI G I ad Q) args s 0 0 (fA I ad)) (F0 m 301 ls []) := by
  have hx := C.1
  have hb := C.2.1
  have hown := C.2.2.2.1
  have hts := C.2.2.2.2.1
  intro n
  induction n with
  | zero =>
    intro x2 M H locs ls hw hP hS hl
    rw [w_X9_read_301] at hw
    exact hw.elim
  | succ n ih =>
    intro x2 M H locs ls hw hP hS hl
    rw [w_X9_read_301] at hw
    refine lv_iload_n (pc := 301) hx hb dX9_read_301 rfl (lv_at hl 1 rfl) ?_
    refine lv_if_lt (pc := 302) (tgt := 451) hx hb dX9_read_302 (by decide) (fun h => ?_) (fun h => ?_)
    · replace hw := if_t h hw
      refine lv_ldc (pc := 451) (own := RX9) (v := (-2000000 : Int32)) hx hb hown (hts _ mw_715) dX9_read_451 ?_
      exact r_iret (pc := 453) C hP hS hw dX9_read_453
    · replace hw := if_f h hw
      refine lv_aload_n (pc := 305) hx hb dX9_read_305 rfl (lv_at hl 0 rfl) ?_
      refine gf_722 (pc := 306) C hP h0 dX9_read_306 ?_
      refine lv_iload_n (pc := 309) hx hb dX9_read_309 rfl (lv_at hl 1 rfl) ?_
      refine r_ialdK (pc := 310) (n := 60) (k := x2.toNatClampNeg) C hP (cl_29_6 hC h0) (fun _ _ _ _ => rfl) hw.1 rfl dX9_read_310 ?_
      replace hw := hw.2
      refine lv_ldc (pc := 311) (own := RX9) (v := (-2000000 : Int32)) hx hb hown (hts _ mw_715) dX9_read_311 ?_
      refine lv_icmp_eq (pc := 313) (tgt := 445) hx hb dX9_read_313 (by decide) (fun h => ?_) (fun h => ?_)
      · replace hw := if_t h hw
        refine lv_iinc (pc := 445) (v := x2 + (-1)) (lv' := [(2, .int (x2 + (-1))), (0, .ref (ad (29, 0, 0, 0)))]) hx hb dX9_read_445 hl (k := 1) rfl rfl (by decide) rfl (fun ls hl => ?_)
        refine lv_goto (pc := 448) (tgt := 301) hx hb dX9_read_448 (by decide) ?_
        exact ih (x2 + (-1)) M _ _ _ hw hP hS (lv_sub hl [1, 0] rfl)
      · replace hw := if_f h hw
        refine lv_aload_n (pc := 316) hx hb dX9_read_316 rfl (lv_at hl 0 rfl) ?_
        refine gf_722 (pc := 317) C hP h0 dX9_read_317 ?_
        refine lv_iload_n (pc := 320) hx hb dX9_read_320 rfl (lv_at hl 1 rfl) ?_
        refine r_ialdK (pc := 321) (n := 60) (k := x2.toNatClampNeg) C hP (cl_29_6 hC h0) (fun _ _ _ _ => rfl) hw.1 rfl dX9_read_321 ?_
        replace hw := hw.2
        refine r_cSI (pc := 322) (rest := []) (As := [.int (M.1 (35, 0, 0, 0) x2.toNatClampNeg)]) C hl.1 hP hS (k_X9_inner l G hC  hw) mw_853 mw_854 mw_65 mw_855 ⟨rfl, rfl⟩ hd_X9_inner rfl rfl ⟨Nat.le_of_ble_eq_true rfl, Nat.le_of_ble_eq_true rfl⟩ (Nat.le_of_ble_eq_true rfl) ⟨Nat.zero_le _, Nat.zero_le _⟩ dX9_read_322 (fun r322 M322 H locs hw hP hS => ?_)
        refine lv_istore_n (pc := 325) (lv' := [(3, .int r322), (0, .ref (ad (29, 0, 0, 0))), (2, .int x2)]) hx hb dX9_read_325 rfl hl (by decide) rfl (fun ls hl => ?_)
        refine lv_aload_n (pc := 326) hx hb dX9_read_326 rfl (lv_at hl 1 rfl) ?_
        refine gf_723 (pc := 327) C hP h0 dX9_read_327 ?_
        refine lv_iload_n (pc := 330) hx hb dX9_read_330 rfl (lv_at hl 2 rfl) ?_
        refine lv_iload_n (pc := 331) hx hb dX9_read_331 rfl (lv_at hl 2 rfl) ?_
        refine lv_iconst (pc := 332) (v := (1 : Int32)) hx hb dX9_read_332 (by decide) ?_
        refine lv_iadd (pc := 333) hx hb dX9_read_333 ?_
        refine r_iastK (pc := 334) (n := 60) (k := x2.toNatClampNeg) C hP hS (cl_29_7 hC h0) (fun _ _ _ _ => rfl) hw.1 rfl dX9_read_334 (fun H locs hP hS => ?_)
        replace hw := hw.2
        refine lv_aload_n (pc := 335) hx hb dX9_read_335 rfl (lv_at hl 1 rfl) ?_
        refine gf_724 (pc := 336) C hP h0 dX9_read_336 ?_
        refine lv_iload_n (pc := 339) hx hb dX9_read_339 rfl (lv_at hl 2 rfl) ?_
        refine lv_iload_n (pc := 340) hx hb dX9_read_340 rfl (lv_at hl 0 rfl) ?_
        refine lv_if_le (pc := 341) (tgt := 355) hx hb dX9_read_341 (by decide) (fun h => ?_) (fun h => ?_)
        · replace hw := if_t h hw
          refine lv_iload_n (pc := 355) hx hb dX9_read_355 rfl (lv_at hl 2 rfl) ?_
          refine lv_iconst (pc := 356) (v := (1 : Int32)) hx hb dX9_read_356 (by decide) ?_
          refine lv_iadd (pc := 357) hx hb dX9_read_357 ?_
          exact j_X9_read_358 C hC h0 ih x2 r322 (x2 + (1 : Int32)) x2 (mu M322 (36, 0, 0, 0) (x2.toNatClampNeg) (x2 + (1 : Int32))) _ _ _ hw hP hS (lv_sub hl [1, 2, 0] rfl) (cl_29_8 hC h0)
        · replace hw := if_f h hw
          refine lv_aload_n (pc := 344) hx hb dX9_read_344 rfl (lv_at hl 1 rfl) ?_
          refine gf_725 (pc := 345) C hP h0 dX9_read_345 ?_
          refine lv_iload_n (pc := 348) hx hb dX9_read_348 rfl (lv_at hl 2 rfl) ?_
          refine lv_iconst (pc := 349) (v := (1 : Int32)) hx hb dX9_read_349 (by decide) ?_
          refine lv_iadd (pc := 350) hx hb dX9_read_350 ?_
          refine r_ialdK (pc := 351) (n := 60) (k := (x2 + (1 : Int32)).toNatClampNeg) C hP (cl_29_9 hC h0) (fun _ _ _ _ => rfl) hw.1 rfl dX9_read_351 ?_
          replace hw := hw.2
          refine lv_goto (pc := 352) (tgt := 358) hx hb dX9_read_352 (by decide) ?_
          exact j_X9_read_358 C hC h0 ih x2 r322 ((mu M322 (36, 0, 0, 0) (x2.toNatClampNeg) (x2 + (1 : Int32))).1 (38, 0, 0, 0) ((x2 + (1 : Int32)).toNatClampNeg)) x2 (mu M322 (36, 0, 0, 0) (x2.toNatClampNeg) (x2 + (1 : Int32))) _ _ _ hw hP hS (lv_sub hl [1, 2, 0] rfl) (cl_29_8 hC h0)
set_option maxHeartbeats 4000000 in
set_option maxRecDepth 100000 in
theorem j_X9_read_228 (C : cx p s m args meth c cX9_read 7 (some .int) RX9 G) (hC : clo I) (h0 : I (29, 0, 0, 0)) {Q : Int32 → Mem → Prop} {B11 : Int32 → Int32 → Mem → Prop} (hB11 : ∀ (x1 : Int32) (x2 : Int32) (M : Mem) (H : Heap) (locs : List Loc) (ls : Array Slot), B11 x1 x2 M → wd G I ad M H → va_S (fA I ad) s.heap H locs → lv_has ls 7 [(0, .ref (ad (29, 0, 0, 0))), (1, .int x1), (2, .int x2)] → W p l e rm_X9_read s m args below meth c H locs 0 0 (MQ below (qI G I ad Q) args s 0 0 (fA I ad)) (F0 m 11 ls [])) : ∀ (n : Nat), ∀ (x1 : Int32) (x2 : Int32) (x5 : Int32) (x6 : Int32) (M : Mem) (H : Heap) (locs : List Loc) (ls : Array Slot), w_X9_read_228 Q B11 n x1 x2 x5 x6 M → wd G I ad M H → va_S (fA I ad) s.heap H locs → lv_has ls 7 [(0, .ref (ad (29, 0, 0, 0))), (1, .int x1), (2, .int x2), (5, .int x5), (6, .int x6)] → W p l e rm_X9_read s m args below meth c H locs 0 0 (MQ below (qI G I ad Q) args s 0 0 (fA I ad)) (F0 m 228 ls []) := by
  have hx := C.1
  have hb := C.2.1
  have hown := C.2.2.2.1
  have hts := C.2.2.2.2.1
  intro n
  induction n with
  | zero =>
    intro x1 x2 x5 x6 M H locs ls hw hP hS hl
    rw [w_X9_read_228] at hw
    exact hw.elim
  | succ n ih =>
    intro x1 x2 x5 x6 M H locs ls hw hP hS hl
    rw [w_X9_read_228] at hw
    refine lv_iload (pc := 228) hx hb dX9_read_228 (lv_at hl 4 rfl) ?_
    refine lv_iload (pc := 230) hx hb dX9_read_230 (lv_at hl 3 rfl) ?_
    refine r_cSI (pc := 232) (rest := [.int x6]) (As := [.int x5]) C hl.1 hP hS (k_X9_inner l G hC  hw) mw_853 mw_854 mw_65 mw_855 ⟨rfl, rfl⟩ hd_X9_inner rfl rfl ⟨Nat.le_of_ble_eq_true rfl, Nat.le_of_ble_eq_true rfl⟩ (Nat.le_of_ble_eq_true rfl) ⟨Nat.zero_le _, Nat.zero_le _⟩ dX9_read_232 (fun r232 M232 H locs hw hP hS => ?_)
    refine lv_icmp_ge (pc := 235) (tgt := 279) hx hb dX9_read_235 (by decide) (fun h => ?_) (fun h => ?_)
    · replace hw := if_t h hw
      refine lv_iinc (pc := 279) (v := x2 + 1) (lv' := [(2, .int (x2 + 1)), (0, .ref (ad (29, 0, 0, 0))), (1, .int x1), (5, .int x5), (6, .int x6)]) hx hb dX9_read_279 hl (k := 2) rfl rfl (by decide) rfl (fun ls hl => ?_)
      refine lv_goto (pc := 282) (tgt := 11) hx hb dX9_read_282 (by decide) ?_
      exact hB11 x1 (x2 + 1) M232 _ _ _ hw hP hS (lv_sub hl [1, 2, 0] rfl)
    · replace hw := if_f h hw
      refine lv_aload_n (pc := 238) hx hb dX9_read_238 rfl (lv_at hl 0 rfl) ?_
      refine gf_726 (pc := 239) C hP h0 dX9_read_239 ?_
      refine lv_iload_n (pc := 242) hx hb dX9_read_242 rfl (lv_at hl 1 rfl) ?_
      refine lv_iload (pc := 243) hx hb dX9_read_243 (lv_at hl 3 rfl) ?_
      refine lv_bipush (pc := 245) (v := (12 : Int32)) hx hb dX9_read_245 (by decide) ?_
      refine lv_icmp_eq (pc := 247) (tgt := 264) hx hb dX9_read_247 (by decide) (fun h => ?_) (fun h => ?_)
      · replace hw := if_t h hw
        refine lv_iconst (pc := 264) (v := (1 : Int32)) hx hb dX9_read_264 (by decide) ?_
        refine lv_goto (pc := 265) (tgt := 269) hx hb dX9_read_265 (by decide) ?_
        refine r_iastK (pc := 269) (n := 200) (k := x1.toNatClampNeg) C hP hS (cl_29_10 hC h0) (fun _ _ _ _ => rfl) hw.1 rfl dX9_read_269 (fun H locs hP hS => ?_)
        replace hw := hw.2
        refine lv_iinc (pc := 270) (v := x1 + 1) (lv' := [(1, .int (x1 + 1)), (0, .ref (ad (29, 0, 0, 0))), (2, .int x2), (5, .int x5), (6, .int x6)]) hx hb dX9_read_270 hl (k := 1) rfl rfl (by decide) rfl (fun ls hl => ?_)
        refine lv_iinc (pc := 273) (v := x6 + 1) (lv' := [(6, .int (x6 + 1)), (1, .int (x1 + 1)), (0, .ref (ad (29, 0, 0, 0))), (2, .int x2), (5, .int x5)]) hx hb dX9_read_273 hl (k := 4) rfl rfl (by decide) rfl (fun ls hl => ?_)
        refine lv_goto (pc := 276) (tgt := 228) hx hb dX9_read_276 (by decide) ?_
        exact ih (x1 + 1) x2 x5 (x6 + 1) (mu M232 (39, 0, 0, 0) (x1.toNatClampNeg) (1 : Int32)) _ _ _ hw hP hS (lv_sub hl [2, 1, 3, 4, 0] rfl)
      · replace hw := if_f h hw
        refine lv_iload (pc := 250) hx hb dX9_read_250 (lv_at hl 3 rfl) ?_
        refine lv_bipush (pc := 252) (v := (13 : Int32)) hx hb dX9_read_252 (by decide) ?_
        refine lv_icmp_eq (pc := 254) (tgt := 264) hx hb dX9_read_254 (by decide) (fun h => ?_) (fun h => ?_)
        · replace hw := if_t h hw
          refine lv_iconst (pc := 264) (v := (1 : Int32)) hx hb dX9_read_264 (by decide) ?_
          refine lv_goto (pc := 265) (tgt := 269) hx hb dX9_read_265 (by decide) ?_
          refine r_iastK (pc := 269) (n := 200) (k := x1.toNatClampNeg) C hP hS (cl_29_10 hC h0) (fun _ _ _ _ => rfl) hw.1 rfl dX9_read_269 (fun H locs hP hS => ?_)
          replace hw := hw.2
          refine lv_iinc (pc := 270) (v := x1 + 1) (lv' := [(1, .int (x1 + 1)), (0, .ref (ad (29, 0, 0, 0))), (2, .int x2), (5, .int x5), (6, .int x6)]) hx hb dX9_read_270 hl (k := 1) rfl rfl (by decide) rfl (fun ls hl => ?_)
          refine lv_iinc (pc := 273) (v := x6 + 1) (lv' := [(6, .int (x6 + 1)), (1, .int (x1 + 1)), (0, .ref (ad (29, 0, 0, 0))), (2, .int x2), (5, .int x5)]) hx hb dX9_read_273 hl (k := 4) rfl rfl (by decide) rfl (fun ls hl => ?_)
          refine lv_goto (pc := 276) (tgt := 228) hx hb dX9_read_276 (by decide) ?_
          exact ih (x1 + 1) x2 x5 (x6 + 1) (mu M232 (39, 0, 0, 0) (x1.toNatClampNeg) (1 : Int32)) _ _ _ hw hP hS (lv_sub hl [2, 1, 3, 4, 0] rfl)
        · replace hw := if_f h hw
          refine lv_iload (pc := 257) hx hb dX9_read_257 (lv_at hl 3 rfl) ?_
          refine lv_bipush (pc := 259) (v := (14 : Int32)) hx hb dX9_read_259 (by decide) ?_
          refine lv_icmp_ne (pc := 261) (tgt := 268) hx hb dX9_read_261 (by decide) (fun h => ?_) (fun h => ?_)
          · replace hw := if_f h hw
            refine lv_iconst (pc := 268) (v := (2 : Int32)) hx hb dX9_read_268 (by decide) ?_
            refine r_iastK (pc := 269) (n := 200) (k := x1.toNatClampNeg) C hP hS (cl_29_10 hC h0) (fun _ _ _ _ => rfl) hw.1 rfl dX9_read_269 (fun H locs hP hS => ?_)
            replace hw := hw.2
            refine lv_iinc (pc := 270) (v := x1 + 1) (lv' := [(1, .int (x1 + 1)), (0, .ref (ad (29, 0, 0, 0))), (2, .int x2), (5, .int x5), (6, .int x6)]) hx hb dX9_read_270 hl (k := 1) rfl rfl (by decide) rfl (fun ls hl => ?_)
            refine lv_iinc (pc := 273) (v := x6 + 1) (lv' := [(6, .int (x6 + 1)), (1, .int (x1 + 1)), (0, .ref (ad (29, 0, 0, 0))), (2, .int x2), (5, .int x5)]) hx hb dX9_read_273 hl (k := 4) rfl rfl (by decide) rfl (fun ls hl => ?_)
            refine lv_goto (pc := 276) (tgt := 228) hx hb dX9_read_276 (by decide) ?_
            exact ih (x1 + 1) x2 x5 (x6 + 1) (mu M232 (39, 0, 0, 0) (x1.toNatClampNeg) (2 : Int32)) _ _ _ hw hP hS (lv_sub hl [2, 1, 3, 4, 0] rfl)
          · replace hw := if_t h hw
            refine lv_iconst (pc := 264) (v := (1 : Int32)) hx hb dX9_read_264 (by decide) ?_
            refine lv_goto (pc := 265) (tgt := 269) hx hb dX9_read_265 (by decide) ?_
            refine r_iastK (pc := 269) (n := 200) (k := x1.toNatClampNeg) C hP hS (cl_29_10 hC h0) (fun _ _ _ _ => rfl) hw.1 rfl dX9_read_269 (fun H locs hP hS => ?_)
            replace hw := hw.2
            refine lv_iinc (pc := 270) (v := x1 + 1) (lv' := [(1, .int (x1 + 1)), (0, .ref (ad (29, 0, 0, 0))), (2, .int x2), (5, .int x5), (6, .int x6)]) hx hb dX9_read_270 hl (k := 1) rfl rfl (by decide) rfl (fun ls hl => ?_)
            refine lv_iinc (pc := 273) (v := x6 + 1) (lv' := [(6, .int (x6 + 1)), (1, .int (x1 + 1)), (0, .ref (ad (29, 0, 0, 0))), (2, .int x2), (5, .int x5)]) hx hb dX9_read_273 hl (k := 4) rfl rfl (by decide) rfl (fun ls hl => ?_)
            refine lv_goto (pc := 276) (tgt := 228) hx hb dX9_read_276 (by decide) ?_
            exact ih (x1 + 1) x2 x5 (x6 + 1) (mu M232 (39, 0, 0, 0) (x1.toNatClampNeg) (1 : Int32)) _ _ _ hw hP hS (lv_sub hl [2, 1, 3, 4, 0] rfl)
set_option maxHeartbeats 4000000 in
set_option maxRecDepth 100000 in
theorem j_X9_read_165 (C : cx p s m args meth c cX9_read 7 (some .int) RX9 G) (hC : clo I) (h0 : I (29, 0, 0, 0)) {Q : Int32 → Mem → Prop} {B11 : Int32 → Int32 → Mem → Prop} (hB11 : ∀ (x1 : Int32) (x2 : Int32) (M : Mem) (H : Heap) (locs : List Loc) (ls : Array Slot), B11 x1 x2 M → wd G I ad M H → va_S (fA I ad) s.heap H locs → lv_has ls 7 [(0, .ref (ad (29, 0, 0, 0))), (1, .int x1), (2, .int x2)] → W p l e rm_X9_read s m args below meth c H locs 0 0 (MQ below (qI G I ad Q) args s 0 0 (fA I ad)) (F0 m 11 ls [])) : ∀ (x1 : Int32) (x2 : Int32) (x5 : Int32) (M : Mem) (H : Heap) (locs : List Loc) (ls : Array Slot), w_X9_read_165 Q B11 x1 x2 x5 M → wd G I ad M H → va_S (fA I ad) s.heap H locs → lv_has ls 7 [(0, .ref (ad (29, 0, 0, 0))), (1, .int x1), (2, .int x2), (5, .int x5)] → W p l e rm_X9_read s m args below meth c H locs 0 0 (MQ below (qI G I ad Q) args s 0 0 (fA I ad)) (F0 m 165 ls []) := by
  have hx := C.1
  have hb := C.2.1
  have hown := C.2.2.2.1
  have hts := C.2.2.2.2.1
  intro x1 x2 x5 M H locs ls hw hP hS hl
  unfold w_X9_read_165 at hw
  refine lv_aload_n (pc := 165) hx hb dX9_read_165 rfl (lv_at hl 0 rfl) ?_
  refine gf_726 (pc := 166) C hP h0 dX9_read_166 ?_
  refine lv_iload_n (pc := 169) hx hb dX9_read_169 rfl (lv_at hl 1 rfl) ?_
  refine lv_iload (pc := 170) hx hb dX9_read_170 (lv_at hl 3 rfl) ?_
  refine lv_iconst (pc := 172) (v := (3 : Int32)) hx hb dX9_read_172 (by decide) ?_
  refine lv_icmp_ne (pc := 173) (tgt := 180) hx hb dX9_read_173 (by decide) (fun h => ?_) (fun h => ?_)
  · replace hw := if_f h hw
    refine lv_iload (pc := 180) hx hb dX9_read_180 (lv_at hl 3 rfl) ?_
    refine lv_bipush (pc := 182) (v := (8 : Int32)) hx hb dX9_read_182 (by decide) ?_
    refine lv_icmp_ne (pc := 184) (tgt := 191) hx hb dX9_read_184 (by decide) (fun h => ?_) (fun h => ?_)
    · replace hw := if_f h hw
      refine lv_iconst (pc := 191) (v := (3 : Int32)) hx hb dX9_read_191 (by decide) ?_
      refine r_iastK (pc := 192) (n := 200) (k := x1.toNatClampNeg) C hP hS (cl_29_10 hC h0) (fun _ _ _ _ => rfl) hw.1 rfl dX9_read_192 (fun H locs hP hS => ?_)
      replace hw := hw.2
      refine lv_aload_n (pc := 193) hx hb dX9_read_193 rfl (lv_at hl 0 rfl) ?_
      refine gf_726 (pc := 194) C hP h0 dX9_read_194 ?_
      refine lv_iload_n (pc := 197) hx hb dX9_read_197 rfl (lv_at hl 1 rfl) ?_
      refine lv_iconst (pc := 198) (v := (1 : Int32)) hx hb dX9_read_198 (by decide) ?_
      refine lv_iadd (pc := 199) hx hb dX9_read_199 ?_
      refine lv_iconst (pc := 200) (v := (4 : Int32)) hx hb dX9_read_200 (by decide) ?_
      refine r_iastK (pc := 201) (n := 200) (k := (x1 + (1 : Int32)).toNatClampNeg) C hP hS (cl_29_10 hC h0) (fun _ _ _ _ => rfl) hw.1 rfl dX9_read_201 (fun H locs hP hS => ?_)
      replace hw := hw.2
      refine lv_aload_n (pc := 202) hx hb dX9_read_202 rfl (lv_at hl 0 rfl) ?_
      refine gf_726 (pc := 203) C hP h0 dX9_read_203 ?_
      refine lv_iload_n (pc := 206) hx hb dX9_read_206 rfl (lv_at hl 1 rfl) ?_
      refine lv_iconst (pc := 207) (v := (2 : Int32)) hx hb dX9_read_207 (by decide) ?_
      refine lv_iadd (pc := 208) hx hb dX9_read_208 ?_
      refine lv_iconst (pc := 209) (v := (4 : Int32)) hx hb dX9_read_209 (by decide) ?_
      refine r_iastK (pc := 210) (n := 200) (k := (x1 + (2 : Int32)).toNatClampNeg) C hP hS (cl_29_10 hC h0) (fun _ _ _ _ => rfl) hw.1 rfl dX9_read_210 (fun H locs hP hS => ?_)
      replace hw := hw.2
      obtain ⟨M210, eM210⟩ : ∃ z : Mem, z = (mu (mu (mu M (39, 0, 0, 0) (x1.toNatClampNeg) (3 : Int32)) (39, 0, 0, 0) ((x1 + (1 : Int32)).toNatClampNeg) (4 : Int32)) (39, 0, 0, 0) ((x1 + (2 : Int32)).toNatClampNeg) (4 : Int32)) := ⟨_, rfl⟩
      replace hP : wd G I ad M210 H := by rw [eM210]; exact hP
      replace hw := hw M210 eM210
      refine lv_iload_n (pc := 211) hx hb dX9_read_211 rfl (lv_at hl 1 rfl) ?_
      refine lv_iload (pc := 212) hx hb dX9_read_212 (lv_at hl 3 rfl) ?_
      refine lv_iconst (pc := 214) (v := (3 : Int32)) hx hb dX9_read_214 (by decide) ?_
      refine lv_icmp_ne (pc := 215) (tgt := 222) hx hb dX9_read_215 (by decide) (fun h => ?_) (fun h => ?_)
      · replace hw := if_f h hw
        refine lv_iconst (pc := 222) (v := (1 : Int32)) hx hb dX9_read_222 (by decide) ?_
        refine lv_iadd (pc := 223) hx hb dX9_read_223 ?_
        refine lv_topi (fun x1_224 ex1_224 => ?_)
        replace hw := hw x1_224 ex1_224
        refine lv_istore_n (pc := 224) (lv' := [(1, .int x1_224), (0, .ref (ad (29, 0, 0, 0))), (2, .int x2), (5, .int x5)]) hx hb dX9_read_224 rfl hl (by decide) rfl (fun ls hl => ?_)
        refine lv_iconst (pc := 225) (v := (0 : Int32)) hx hb dX9_read_225 (by decide) ?_
        refine lv_istore (pc := 226) (lv' := [(6, .int (0 : Int32)), (1, .int x1_224), (0, .ref (ad (29, 0, 0, 0))), (2, .int x2), (5, .int x5)]) hx hb dX9_read_226 hl (by decide) rfl (fun ls hl => ?_)
        obtain ⟨n0, hw⟩ := hw
        exact j_X9_read_228 C hC h0 hB11 n0 x1_224 x2 x5 (0 : Int32) M210 _ _ _ hw hP hS (lv_sub hl [2, 1, 3, 4, 0] rfl)
      · replace hw := if_t h hw
        refine lv_iconst (pc := 218) (v := (3 : Int32)) hx hb dX9_read_218 (by decide) ?_
        refine lv_goto (pc := 219) (tgt := 223) hx hb dX9_read_219 (by decide) ?_
        refine lv_iadd (pc := 223) hx hb dX9_read_223 ?_
        refine lv_topi (fun x1_224 ex1_224 => ?_)
        replace hw := hw x1_224 ex1_224
        refine lv_istore_n (pc := 224) (lv' := [(1, .int x1_224), (0, .ref (ad (29, 0, 0, 0))), (2, .int x2), (5, .int x5)]) hx hb dX9_read_224 rfl hl (by decide) rfl (fun ls hl => ?_)
        refine lv_iconst (pc := 225) (v := (0 : Int32)) hx hb dX9_read_225 (by decide) ?_
        refine lv_istore (pc := 226) (lv' := [(6, .int (0 : Int32)), (1, .int x1_224), (0, .ref (ad (29, 0, 0, 0))), (2, .int x2), (5, .int x5)]) hx hb dX9_read_226 hl (by decide) rfl (fun ls hl => ?_)
        obtain ⟨n0, hw⟩ := hw
        exact j_X9_read_228 C hC h0 hB11 n0 x1_224 x2 x5 (0 : Int32) M210 _ _ _ hw hP hS (lv_sub hl [2, 1, 3, 4, 0] rfl)
    · replace hw := if_t h hw
      refine lv_iconst (pc := 187) (v := (5 : Int32)) hx hb dX9_read_187 (by decide) ?_
      refine lv_goto (pc := 188) (tgt := 192) hx hb dX9_read_188 (by decide) ?_
      refine r_iastK (pc := 192) (n := 200) (k := x1.toNatClampNeg) C hP hS (cl_29_10 hC h0) (fun _ _ _ _ => rfl) hw.1 rfl dX9_read_192 (fun H locs hP hS => ?_)
      replace hw := hw.2
      refine lv_aload_n (pc := 193) hx hb dX9_read_193 rfl (lv_at hl 0 rfl) ?_
      refine gf_726 (pc := 194) C hP h0 dX9_read_194 ?_
      refine lv_iload_n (pc := 197) hx hb dX9_read_197 rfl (lv_at hl 1 rfl) ?_
      refine lv_iconst (pc := 198) (v := (1 : Int32)) hx hb dX9_read_198 (by decide) ?_
      refine lv_iadd (pc := 199) hx hb dX9_read_199 ?_
      refine lv_iconst (pc := 200) (v := (4 : Int32)) hx hb dX9_read_200 (by decide) ?_
      refine r_iastK (pc := 201) (n := 200) (k := (x1 + (1 : Int32)).toNatClampNeg) C hP hS (cl_29_10 hC h0) (fun _ _ _ _ => rfl) hw.1 rfl dX9_read_201 (fun H locs hP hS => ?_)
      replace hw := hw.2
      refine lv_aload_n (pc := 202) hx hb dX9_read_202 rfl (lv_at hl 0 rfl) ?_
      refine gf_726 (pc := 203) C hP h0 dX9_read_203 ?_
      refine lv_iload_n (pc := 206) hx hb dX9_read_206 rfl (lv_at hl 1 rfl) ?_
      refine lv_iconst (pc := 207) (v := (2 : Int32)) hx hb dX9_read_207 (by decide) ?_
      refine lv_iadd (pc := 208) hx hb dX9_read_208 ?_
      refine lv_iconst (pc := 209) (v := (4 : Int32)) hx hb dX9_read_209 (by decide) ?_
      refine r_iastK (pc := 210) (n := 200) (k := (x1 + (2 : Int32)).toNatClampNeg) C hP hS (cl_29_10 hC h0) (fun _ _ _ _ => rfl) hw.1 rfl dX9_read_210 (fun H locs hP hS => ?_)
      replace hw := hw.2
      obtain ⟨M210, eM210⟩ : ∃ z : Mem, z = (mu (mu (mu M (39, 0, 0, 0) (x1.toNatClampNeg) (5 : Int32)) (39, 0, 0, 0) ((x1 + (1 : Int32)).toNatClampNeg) (4 : Int32)) (39, 0, 0, 0) ((x1 + (2 : Int32)).toNatClampNeg) (4 : Int32)) := ⟨_, rfl⟩
      replace hP : wd G I ad M210 H := by rw [eM210]; exact hP
      replace hw := hw M210 eM210
      refine lv_iload_n (pc := 211) hx hb dX9_read_211 rfl (lv_at hl 1 rfl) ?_
      refine lv_iload (pc := 212) hx hb dX9_read_212 (lv_at hl 3 rfl) ?_
      refine lv_iconst (pc := 214) (v := (3 : Int32)) hx hb dX9_read_214 (by decide) ?_
      refine lv_icmp_ne (pc := 215) (tgt := 222) hx hb dX9_read_215 (by decide) (fun h => ?_) (fun h => ?_)
      · replace hw := if_f h hw
        refine lv_iconst (pc := 222) (v := (1 : Int32)) hx hb dX9_read_222 (by decide) ?_
        refine lv_iadd (pc := 223) hx hb dX9_read_223 ?_
        refine lv_topi (fun x1_224 ex1_224 => ?_)
        replace hw := hw x1_224 ex1_224
        refine lv_istore_n (pc := 224) (lv' := [(1, .int x1_224), (0, .ref (ad (29, 0, 0, 0))), (2, .int x2), (5, .int x5)]) hx hb dX9_read_224 rfl hl (by decide) rfl (fun ls hl => ?_)
        refine lv_iconst (pc := 225) (v := (0 : Int32)) hx hb dX9_read_225 (by decide) ?_
        refine lv_istore (pc := 226) (lv' := [(6, .int (0 : Int32)), (1, .int x1_224), (0, .ref (ad (29, 0, 0, 0))), (2, .int x2), (5, .int x5)]) hx hb dX9_read_226 hl (by decide) rfl (fun ls hl => ?_)
        obtain ⟨n0, hw⟩ := hw
        exact j_X9_read_228 C hC h0 hB11 n0 x1_224 x2 x5 (0 : Int32) M210 _ _ _ hw hP hS (lv_sub hl [2, 1, 3, 4, 0] rfl)
      · replace hw := if_t h hw
        refine lv_iconst (pc := 218) (v := (3 : Int32)) hx hb dX9_read_218 (by decide) ?_
        refine lv_goto (pc := 219) (tgt := 223) hx hb dX9_read_219 (by decide) ?_
        refine lv_iadd (pc := 223) hx hb dX9_read_223 ?_
        refine lv_topi (fun x1_224 ex1_224 => ?_)
        replace hw := hw x1_224 ex1_224
        refine lv_istore_n (pc := 224) (lv' := [(1, .int x1_224), (0, .ref (ad (29, 0, 0, 0))), (2, .int x2), (5, .int x5)]) hx hb dX9_read_224 rfl hl (by decide) rfl (fun ls hl => ?_)
        refine lv_iconst (pc := 225) (v := (0 : Int32)) hx hb dX9_read_225 (by decide) ?_
        refine lv_istore (pc := 226) (lv' := [(6, .int (0 : Int32)), (1, .int x1_224), (0, .ref (ad (29, 0, 0, 0))), (2, .int x2), (5, .int x5)]) hx hb dX9_read_226 hl (by decide) rfl (fun ls hl => ?_)
        obtain ⟨n0, hw⟩ := hw
        exact j_X9_read_228 C hC h0 hB11 n0 x1_224 x2 x5 (0 : Int32) M210 _ _ _ hw hP hS (lv_sub hl [2, 1, 3, 4, 0] rfl)
  · replace hw := if_t h hw
    refine lv_iconst (pc := 176) (v := (4 : Int32)) hx hb dX9_read_176 (by decide) ?_
    refine lv_goto (pc := 177) (tgt := 192) hx hb dX9_read_177 (by decide) ?_
    refine r_iastK (pc := 192) (n := 200) (k := x1.toNatClampNeg) C hP hS (cl_29_10 hC h0) (fun _ _ _ _ => rfl) hw.1 rfl dX9_read_192 (fun H locs hP hS => ?_)
    replace hw := hw.2
    refine lv_aload_n (pc := 193) hx hb dX9_read_193 rfl (lv_at hl 0 rfl) ?_
    refine gf_726 (pc := 194) C hP h0 dX9_read_194 ?_
    refine lv_iload_n (pc := 197) hx hb dX9_read_197 rfl (lv_at hl 1 rfl) ?_
    refine lv_iconst (pc := 198) (v := (1 : Int32)) hx hb dX9_read_198 (by decide) ?_
    refine lv_iadd (pc := 199) hx hb dX9_read_199 ?_
    refine lv_iconst (pc := 200) (v := (4 : Int32)) hx hb dX9_read_200 (by decide) ?_
    refine r_iastK (pc := 201) (n := 200) (k := (x1 + (1 : Int32)).toNatClampNeg) C hP hS (cl_29_10 hC h0) (fun _ _ _ _ => rfl) hw.1 rfl dX9_read_201 (fun H locs hP hS => ?_)
    replace hw := hw.2
    refine lv_aload_n (pc := 202) hx hb dX9_read_202 rfl (lv_at hl 0 rfl) ?_
    refine gf_726 (pc := 203) C hP h0 dX9_read_203 ?_
    refine lv_iload_n (pc := 206) hx hb dX9_read_206 rfl (lv_at hl 1 rfl) ?_
    refine lv_iconst (pc := 207) (v := (2 : Int32)) hx hb dX9_read_207 (by decide) ?_
    refine lv_iadd (pc := 208) hx hb dX9_read_208 ?_
    refine lv_iconst (pc := 209) (v := (4 : Int32)) hx hb dX9_read_209 (by decide) ?_
    refine r_iastK (pc := 210) (n := 200) (k := (x1 + (2 : Int32)).toNatClampNeg) C hP hS (cl_29_10 hC h0) (fun _ _ _ _ => rfl) hw.1 rfl dX9_read_210 (fun H locs hP hS => ?_)
    replace hw := hw.2
    obtain ⟨M210, eM210⟩ : ∃ z : Mem, z = (mu (mu (mu M (39, 0, 0, 0) (x1.toNatClampNeg) (4 : Int32)) (39, 0, 0, 0) ((x1 + (1 : Int32)).toNatClampNeg) (4 : Int32)) (39, 0, 0, 0) ((x1 + (2 : Int32)).toNatClampNeg) (4 : Int32)) := ⟨_, rfl⟩
    replace hP : wd G I ad M210 H := by rw [eM210]; exact hP
    replace hw := hw M210 eM210
    refine lv_iload_n (pc := 211) hx hb dX9_read_211 rfl (lv_at hl 1 rfl) ?_
    refine lv_iload (pc := 212) hx hb dX9_read_212 (lv_at hl 3 rfl) ?_
    refine lv_iconst (pc := 214) (v := (3 : Int32)) hx hb dX9_read_214 (by decide) ?_
    refine lv_icmp_ne (pc := 215) (tgt := 222) hx hb dX9_read_215 (by decide) (fun h => ?_) (fun h => ?_)
    · replace hw := if_f h hw
      refine lv_iconst (pc := 222) (v := (1 : Int32)) hx hb dX9_read_222 (by decide) ?_
      refine lv_iadd (pc := 223) hx hb dX9_read_223 ?_
      refine lv_topi (fun x1_224 ex1_224 => ?_)
      replace hw := hw x1_224 ex1_224
      refine lv_istore_n (pc := 224) (lv' := [(1, .int x1_224), (0, .ref (ad (29, 0, 0, 0))), (2, .int x2), (5, .int x5)]) hx hb dX9_read_224 rfl hl (by decide) rfl (fun ls hl => ?_)
      refine lv_iconst (pc := 225) (v := (0 : Int32)) hx hb dX9_read_225 (by decide) ?_
      refine lv_istore (pc := 226) (lv' := [(6, .int (0 : Int32)), (1, .int x1_224), (0, .ref (ad (29, 0, 0, 0))), (2, .int x2), (5, .int x5)]) hx hb dX9_read_226 hl (by decide) rfl (fun ls hl => ?_)
      obtain ⟨n0, hw⟩ := hw
      exact j_X9_read_228 C hC h0 hB11 n0 x1_224 x2 x5 (0 : Int32) M210 _ _ _ hw hP hS (lv_sub hl [2, 1, 3, 4, 0] rfl)
    · replace hw := if_t h hw
      refine lv_iconst (pc := 218) (v := (3 : Int32)) hx hb dX9_read_218 (by decide) ?_
      refine lv_goto (pc := 219) (tgt := 223) hx hb dX9_read_219 (by decide) ?_
      refine lv_iadd (pc := 223) hx hb dX9_read_223 ?_
      refine lv_topi (fun x1_224 ex1_224 => ?_)
      replace hw := hw x1_224 ex1_224
      refine lv_istore_n (pc := 224) (lv' := [(1, .int x1_224), (0, .ref (ad (29, 0, 0, 0))), (2, .int x2), (5, .int x5)]) hx hb dX9_read_224 rfl hl (by decide) rfl (fun ls hl => ?_)
      refine lv_iconst (pc := 225) (v := (0 : Int32)) hx hb dX9_read_225 (by decide) ?_
      refine lv_istore (pc := 226) (lv' := [(6, .int (0 : Int32)), (1, .int x1_224), (0, .ref (ad (29, 0, 0, 0))), (2, .int x2), (5, .int x5)]) hx hb dX9_read_226 hl (by decide) rfl (fun ls hl => ?_)
      obtain ⟨n0, hw⟩ := hw
      exact j_X9_read_228 C hC h0 hB11 n0 x1_224 x2 x5 (0 : Int32) M210 _ _ _ hw hP hS (lv_sub hl [2, 1, 3, 4, 0] rfl)
set_option maxHeartbeats 4000000 in
set_option maxRecDepth 100000 in
theorem j_X9_read_11 (C : cx p s m args meth c cX9_read 7 (some .int) RX9 G) (hC : clo I) (h0 : I (29, 0, 0, 0)) {Q : Int32 → Mem → Prop} : ∀ (n : Nat), ∀ (x1 : Int32) (x2 : Int32) (M : Mem) (H : Heap) (locs : List Loc) (ls : Array Slot), w_X9_read_11 Q n x1 x2 M → wd G I ad M H → va_S (fA I ad) s.heap H locs → lv_has ls 7 [(0, .ref (ad (29, 0, 0, 0))), (1, .int x1), (2, .int x2)] → W p l e rm_X9_read s m args below meth c H locs 0 0 (MQ below (qI G I ad Q) args s 0 0 (fA I ad)) (F0 m 11 ls []) := by
  have hx := C.1
  have hb := C.2.1
  have hown := C.2.2.2.1
  have hts := C.2.2.2.2.1
  intro n
  induction n with
  | zero =>
    intro x1 x2 M H locs ls hw hP hS hl
    rw [w_X9_read_11] at hw
    exact hw.elim
  | succ n ih =>
    intro x1 x2 M H locs ls hw hP hS hl
    rw [w_X9_read_11] at hw
    refine lv_iload_n (pc := 11) hx hb dX9_read_11 rfl (lv_at hl 2 rfl) ?_
    refine lv_aload_n (pc := 12) hx hb dX9_read_12 rfl (lv_at hl 0 rfl) ?_
    refine gf_720 (pc := 13) C hP h0 dX9_read_13 ?_
    refine lv_icmp_ge (pc := 16) (tgt := 285) hx hb dX9_read_16 (by decide) (fun h => ?_) (fun h => ?_)
    · replace hw := if_t h hw
      refine lv_iload_n (pc := 285) hx hb dX9_read_285 rfl (lv_at hl 1 rfl) ?_
      refine lv_if_le (pc := 286) (tgt := 294) hx hb dX9_read_286 (by decide) (fun h => ?_) (fun h => ?_)
      · replace hw := if_t h hw
        refine lv_aload_n (pc := 294) hx hb dX9_read_294 rfl (lv_at hl 0 rfl) ?_
        refine gf_720 (pc := 295) C hP h0 dX9_read_295 ?_
        refine lv_iconst (pc := 298) (v := (1 : Int32)) hx hb dX9_read_298 (by decide) ?_
        refine lv_isub (pc := 299) hx hb dX9_read_299 ?_
        refine lv_topi (fun x2_300 ex2_300 => ?_)
        replace hw := hw x2_300 ex2_300
        refine lv_istore_n (pc := 300) (lv' := [(2, .int x2_300), (0, .ref (ad (29, 0, 0, 0))), (1, .int x1)]) hx hb dX9_read_300 rfl hl (by decide) rfl (fun ls hl => ?_)
        obtain ⟨n0, hw⟩ := hw
        exact j_X9_read_301 C hC h0 n0 x2_300 M _ _ _ hw hP hS (lv_sub hl [1, 0] rfl)
      · replace hw := if_f h hw
        refine lv_aload_n (pc := 289) hx hb dX9_read_289 rfl (lv_at hl 0 rfl) ?_
        refine gf_720 (pc := 290) C hP h0 dX9_read_290 ?_
        exact r_iret (pc := 293) C hP hS hw dX9_read_293
    · replace hw := if_f h hw
      refine lv_aload_n (pc := 19) hx hb dX9_read_19 rfl (lv_at hl 0 rfl) ?_
      refine gf_721 (pc := 20) C hP h0 dX9_read_20 ?_
      refine lv_iload_n (pc := 23) hx hb dX9_read_23 rfl (lv_at hl 2 rfl) ?_
      refine r_ialdK (pc := 24) (n := 60) (k := x2.toNatClampNeg) C hP (cl_29_5 hC h0) (fun _ _ _ _ => rfl) hw.1 rfl dX9_read_24 ?_
      replace hw := hw.2
      refine lv_topi (fun x3_25 ex3_25 => ?_)
      replace hw := hw x3_25 ex3_25
      refine lv_istore_n (pc := 25) (lv' := [(3, .int x3_25), (0, .ref (ad (29, 0, 0, 0))), (1, .int x1), (2, .int x2)]) hx hb dX9_read_25 rfl hl (by decide) rfl (fun ls hl => ?_)
      refine lv_aload_n (pc := 26) hx hb dX9_read_26 rfl (lv_at hl 1 rfl) ?_
      refine gf_722 (pc := 27) C hP h0 dX9_read_27 ?_
      refine lv_iload_n (pc := 30) hx hb dX9_read_30 rfl (lv_at hl 3 rfl) ?_
      refine lv_ldc (pc := 31) (own := RX9) (v := (-2000000 : Int32)) hx hb hown (hts _ mw_715) dX9_read_31 ?_
      refine r_iastK (pc := 33) (n := 60) (k := x2.toNatClampNeg) C hP hS (cl_29_6 hC h0) (fun _ _ _ _ => rfl) hw.1 rfl dX9_read_33 (fun H locs hP hS => ?_)
      replace hw := hw.2
      refine lv_iload_n (pc := 34) hx hb dX9_read_34 rfl (lv_at hl 2 rfl) ?_
      refine lv_if_ne (pc := 35) (tgt := 40) hx hb dX9_read_35 (by decide) (fun h => ?_) (fun h => ?_)
      · replace hw := if_f h hw
        refine lv_iinc (pc := 40) (v := x1 + (-1)) (lv' := [(1, .int (x1 + (-1))), (3, .int x3_25), (0, .ref (ad (29, 0, 0, 0))), (2, .int x2)]) hx hb dX9_read_40 hl (k := 2) rfl rfl (by decide) rfl (fun ls hl => ?_)
        refine lv_aload_n (pc := 43) hx hb dX9_read_43 rfl (lv_at hl 2 rfl) ?_
        refine gf_726 (pc := 44) C hP h0 dX9_read_44 ?_
        refine lv_iload_n (pc := 47) hx hb dX9_read_47 rfl (lv_at hl 0 rfl) ?_
        refine r_ialdK (pc := 48) (n := 200) (k := (x1 + (-1)).toNatClampNeg) C hP (cl_29_10 hC h0) (fun _ _ _ _ => rfl) hw.1 rfl dX9_read_48 ?_
        replace hw := hw.2
        refine lv_topi (fun x4_49 ex4_49 => ?_)
        replace hw := hw x4_49 ex4_49
        refine lv_istore (pc := 49) (lv' := [(4, .int x4_49), (1, .int (x1 + (-1))), (3, .int x3_25), (0, .ref (ad (29, 0, 0, 0))), (2, .int x2)]) hx hb dX9_read_49 hl (by decide) rfl (fun ls hl => ?_)
        refine lv_iload (pc := 51) hx hb dX9_read_51 (lv_at hl 0 rfl) ?_
        refine lv_iconst (pc := 53) (v := (2 : Int32)) hx hb dX9_read_53 (by decide) ?_
        refine lv_icmp_le (pc := 54) (tgt := 111) hx hb dX9_read_54 (by decide) (fun h => ?_) (fun h => ?_)
        · replace hw := if_t h hw
          refine lv_iload (pc := 111) hx hb dX9_read_111 (lv_at hl 0 rfl) ?_
          refine lv_iconst (pc := 113) (v := (1 : Int32)) hx hb dX9_read_113 (by decide) ?_
          refine lv_icmp_ne (pc := 114) (tgt := 124) hx hb dX9_read_114 (by decide) (fun h => ?_) (fun h => ?_)
          · replace hw := if_f h hw
            refine lv_iload_n (pc := 124) hx hb dX9_read_124 rfl (lv_at hl 2 rfl) ?_
            refine r_cSI (pc := 125) (rest := []) (As := [.int x3_25]) C hl.1 hP hS (k_X9_termOf l G hC  hw) mw_850 mw_851 mw_65 mw_852 ⟨rfl, rfl⟩ hd_X9_termOf rfl rfl ⟨Nat.le_of_ble_eq_true rfl, Nat.le_of_ble_eq_true rfl⟩ (Nat.le_of_ble_eq_true rfl) ⟨Nat.zero_le _, Nat.zero_le _⟩ dX9_read_125 (fun r125 M125 H locs hw hP hS => ?_)
            refine lv_istore (pc := 128) (lv' := [(5, .int r125), (4, .int x4_49), (1, .int (x1 + (-1))), (3, .int x3_25), (0, .ref (ad (29, 0, 0, 0))), (2, .int x2)]) hx hb dX9_read_128 hl (by decide) rfl (fun ls hl => ?_)
            refine lv_iload (pc := 130) hx hb dX9_read_130 (lv_at hl 0 rfl) ?_
            refine lv_if_ge (pc := 132) (tgt := 137) hx hb dX9_read_132 (by decide) (fun h => ?_) (fun h => ?_)
            · replace hw := if_t h hw
              refine lv_aload_n (pc := 137) hx hb dX9_read_137 rfl (lv_at hl 4 rfl) ?_
              refine gf_722 (pc := 138) C hP h0 dX9_read_138 ?_
              refine lv_iload_n (pc := 141) hx hb dX9_read_141 rfl (lv_at hl 5 rfl) ?_
              refine lv_iload (pc := 142) hx hb dX9_read_142 (lv_at hl 0 rfl) ?_
              refine r_iastK (pc := 144) (n := 60) (k := x2.toNatClampNeg) C hP hS (cl_29_6 hC h0) (fun _ _ _ _ => rfl) hw.1 rfl dX9_read_144 (fun H locs hP hS => ?_)
              replace hw := hw.2
              refine lv_iload (pc := 145) hx hb dX9_read_145 (lv_at hl 0 rfl) ?_
              refine lv_iconst (pc := 147) (v := (3 : Int32)) hx hb dX9_read_147 (by decide) ?_
              refine lv_icmp_eq (pc := 148) (tgt := 165) hx hb dX9_read_148 (by decide) (fun h => ?_) (fun h => ?_)
              · replace hw := if_t h hw
                exact j_X9_read_165 C hC h0 ih (x1 + (-1)) x2 r125 (mu M125 (35, 0, 0, 0) (x2.toNatClampNeg) r125) _ _ _ hw hP hS (lv_sub hl [4, 2, 5, 0] rfl)
              · replace hw := if_f h hw
                refine lv_iload (pc := 151) hx hb dX9_read_151 (lv_at hl 0 rfl) ?_
                refine lv_bipush (pc := 153) (v := (8 : Int32)) hx hb dX9_read_153 (by decide) ?_
                refine lv_icmp_eq (pc := 155) (tgt := 165) hx hb dX9_read_155 (by decide) (fun h => ?_) (fun h => ?_)
                · replace hw := if_t h hw
                  exact j_X9_read_165 C hC h0 ih (x1 + (-1)) x2 r125 (mu M125 (35, 0, 0, 0) (x2.toNatClampNeg) r125) _ _ _ hw hP hS (lv_sub hl [4, 2, 5, 0] rfl)
                · replace hw := if_f h hw
                  refine lv_iload (pc := 158) hx hb dX9_read_158 (lv_at hl 0 rfl) ?_
                  refine lv_bipush (pc := 160) (v := (15 : Int32)) hx hb dX9_read_160 (by decide) ?_
                  refine lv_icmp_ne (pc := 162) (tgt := 225) hx hb dX9_read_162 (by decide) (fun h => ?_) (fun h => ?_)
                  · replace hw := if_f h hw
                    refine lv_iconst (pc := 225) (v := (0 : Int32)) hx hb dX9_read_225 (by decide) ?_
                    refine lv_istore (pc := 226) (lv' := [(6, .int (0 : Int32)), (5, .int r125), (4, .int x4_49), (1, .int (x1 + (-1))), (3, .int x3_25), (0, .ref (ad (29, 0, 0, 0))), (2, .int x2)]) hx hb dX9_read_226 hl (by decide) rfl (fun ls hl => ?_)
                    obtain ⟨n0, hw⟩ := hw
                    exact j_X9_read_228 C hC h0 ih n0 (x1 + (-1)) x2 r125 (0 : Int32) (mu M125 (35, 0, 0, 0) (x2.toNatClampNeg) r125) _ _ _ hw hP hS (lv_sub hl [5, 3, 6, 1, 0] rfl)
                  · replace hw := if_t h hw
                    exact j_X9_read_165 C hC h0 ih (x1 + (-1)) x2 r125 (mu M125 (35, 0, 0, 0) (x2.toNatClampNeg) r125) _ _ _ hw hP hS (lv_sub hl [4, 2, 5, 0] rfl)
            · replace hw := if_f h hw
              refine lv_iload_n (pc := 135) hx hb dX9_read_135 rfl (lv_at hl 5 rfl) ?_
              exact r_iret (pc := 136) C hP hS hw dX9_read_136
          · replace hw := if_t h hw
            refine lv_iload_n (pc := 117) hx hb dX9_read_117 rfl (lv_at hl 2 rfl) ?_
            refine r_cSI (pc := 118) (rest := []) (As := [.int x3_25]) C hl.1 hP hS (k_X9_truthOf l G hC  hw) mw_847 mw_848 mw_65 mw_849 ⟨rfl, rfl⟩ hd_X9_truthOf rfl rfl ⟨Nat.le_of_ble_eq_true rfl, Nat.le_of_ble_eq_true rfl⟩ (Nat.le_of_ble_eq_true rfl) ⟨Nat.zero_le _, Nat.zero_le _⟩ dX9_read_118 (fun r118 M118 H locs hw hP hS => ?_)
            refine lv_goto (pc := 121) (tgt := 128) hx hb dX9_read_121 (by decide) ?_
            refine lv_istore (pc := 128) (lv' := [(5, .int r118), (4, .int x4_49), (1, .int (x1 + (-1))), (3, .int x3_25), (0, .ref (ad (29, 0, 0, 0))), (2, .int x2)]) hx hb dX9_read_128 hl (by decide) rfl (fun ls hl => ?_)
            refine lv_iload (pc := 130) hx hb dX9_read_130 (lv_at hl 0 rfl) ?_
            refine lv_if_ge (pc := 132) (tgt := 137) hx hb dX9_read_132 (by decide) (fun h => ?_) (fun h => ?_)
            · replace hw := if_t h hw
              refine lv_aload_n (pc := 137) hx hb dX9_read_137 rfl (lv_at hl 4 rfl) ?_
              refine gf_722 (pc := 138) C hP h0 dX9_read_138 ?_
              refine lv_iload_n (pc := 141) hx hb dX9_read_141 rfl (lv_at hl 5 rfl) ?_
              refine lv_iload (pc := 142) hx hb dX9_read_142 (lv_at hl 0 rfl) ?_
              refine r_iastK (pc := 144) (n := 60) (k := x2.toNatClampNeg) C hP hS (cl_29_6 hC h0) (fun _ _ _ _ => rfl) hw.1 rfl dX9_read_144 (fun H locs hP hS => ?_)
              replace hw := hw.2
              refine lv_iload (pc := 145) hx hb dX9_read_145 (lv_at hl 0 rfl) ?_
              refine lv_iconst (pc := 147) (v := (3 : Int32)) hx hb dX9_read_147 (by decide) ?_
              refine lv_icmp_eq (pc := 148) (tgt := 165) hx hb dX9_read_148 (by decide) (fun h => ?_) (fun h => ?_)
              · replace hw := if_t h hw
                exact j_X9_read_165 C hC h0 ih (x1 + (-1)) x2 r118 (mu M118 (35, 0, 0, 0) (x2.toNatClampNeg) r118) _ _ _ hw hP hS (lv_sub hl [4, 2, 5, 0] rfl)
              · replace hw := if_f h hw
                refine lv_iload (pc := 151) hx hb dX9_read_151 (lv_at hl 0 rfl) ?_
                refine lv_bipush (pc := 153) (v := (8 : Int32)) hx hb dX9_read_153 (by decide) ?_
                refine lv_icmp_eq (pc := 155) (tgt := 165) hx hb dX9_read_155 (by decide) (fun h => ?_) (fun h => ?_)
                · replace hw := if_t h hw
                  exact j_X9_read_165 C hC h0 ih (x1 + (-1)) x2 r118 (mu M118 (35, 0, 0, 0) (x2.toNatClampNeg) r118) _ _ _ hw hP hS (lv_sub hl [4, 2, 5, 0] rfl)
                · replace hw := if_f h hw
                  refine lv_iload (pc := 158) hx hb dX9_read_158 (lv_at hl 0 rfl) ?_
                  refine lv_bipush (pc := 160) (v := (15 : Int32)) hx hb dX9_read_160 (by decide) ?_
                  refine lv_icmp_ne (pc := 162) (tgt := 225) hx hb dX9_read_162 (by decide) (fun h => ?_) (fun h => ?_)
                  · replace hw := if_f h hw
                    refine lv_iconst (pc := 225) (v := (0 : Int32)) hx hb dX9_read_225 (by decide) ?_
                    refine lv_istore (pc := 226) (lv' := [(6, .int (0 : Int32)), (5, .int r118), (4, .int x4_49), (1, .int (x1 + (-1))), (3, .int x3_25), (0, .ref (ad (29, 0, 0, 0))), (2, .int x2)]) hx hb dX9_read_226 hl (by decide) rfl (fun ls hl => ?_)
                    obtain ⟨n0, hw⟩ := hw
                    exact j_X9_read_228 C hC h0 ih n0 (x1 + (-1)) x2 r118 (0 : Int32) (mu M118 (35, 0, 0, 0) (x2.toNatClampNeg) r118) _ _ _ hw hP hS (lv_sub hl [5, 3, 6, 1, 0] rfl)
                  · replace hw := if_t h hw
                    exact j_X9_read_165 C hC h0 ih (x1 + (-1)) x2 r118 (mu M118 (35, 0, 0, 0) (x2.toNatClampNeg) r118) _ _ _ hw hP hS (lv_sub hl [4, 2, 5, 0] rfl)
            · replace hw := if_f h hw
              refine lv_iload_n (pc := 135) hx hb dX9_read_135 rfl (lv_at hl 5 rfl) ?_
              exact r_iret (pc := 136) C hP hS hw dX9_read_136
        · replace hw := if_f h hw
          refine lv_iload (pc := 57) hx hb dX9_read_57 (lv_at hl 0 rfl) ?_
          refine lv_iconst (pc := 59) (v := (3 : Int32)) hx hb dX9_read_59 (by decide) ?_
          refine lv_icmp_ne (pc := 60) (tgt := 74) hx hb dX9_read_60 (by decide) (fun h => ?_) (fun h => ?_)
          · replace hw := if_f h hw
            refine lv_iload (pc := 74) hx hb dX9_read_74 (lv_at hl 0 rfl) ?_
            refine lv_iconst (pc := 76) (v := (4 : Int32)) hx hb dX9_read_76 (by decide) ?_
            refine lv_icmp_ne (pc := 77) (tgt := 91) hx hb dX9_read_77 (by decide) (fun h => ?_) (fun h => ?_)
            · replace hw := if_f h hw
              refine lv_iload_n (pc := 91) hx hb dX9_read_91 rfl (lv_at hl 2 rfl) ?_
              refine lv_bipush (pc := 92) (v := (49 : Int32)) hx hb dX9_read_92 (by decide) ?_
              refine lv_bipush (pc := 94) (v := (57 : Int32)) hx hb dX9_read_94 (by decide) ?_
              refine r_cSI (pc := 96) (rest := []) (As := [.int x3_25, .int (49 : Int32), .int (57 : Int32)]) C hl.1 hP hS (k_X9_in l G hC  hw) mw_779 mw_780 mw_65 mw_781 ⟨rfl, rfl⟩ hd_X9_in rfl rfl ⟨Nat.le_of_ble_eq_true rfl, Nat.le_of_ble_eq_true rfl⟩ (Nat.le_of_ble_eq_true rfl) ⟨Nat.zero_le _, Nat.zero_le _⟩ dX9_read_96 (fun r96 M96 H locs hw hP hS => ?_)
              refine lv_istore (pc := 99) (lv' := [(5, .int r96), (4, .int x4_49), (1, .int (x1 + (-1))), (3, .int x3_25), (0, .ref (ad (29, 0, 0, 0))), (2, .int x2)]) hx hb dX9_read_99 hl (by decide) rfl (fun ls hl => ?_)
              refine lv_iload (pc := 101) hx hb dX9_read_101 (lv_at hl 0 rfl) ?_
              refine lv_if_ne (pc := 103) (tgt := 108) hx hb dX9_read_103 (by decide) (fun h => ?_) (fun h => ?_)
              · replace hw := if_f h hw
                refine lv_goto (pc := 108) (tgt := 279) hx hb dX9_read_108 (by decide) ?_
                refine lv_iinc (pc := 279) (v := x2 + 1) (lv' := [(2, .int (x2 + 1)), (5, .int r96), (4, .int x4_49), (1, .int (x1 + (-1))), (3, .int x3_25), (0, .ref (ad (29, 0, 0, 0)))]) hx hb dX9_read_279 hl (k := 5) rfl rfl (by decide) rfl (fun ls hl => ?_)
                refine lv_goto (pc := 282) (tgt := 11) hx hb dX9_read_282 (by decide) ?_
                exact ih (x1 + (-1)) (x2 + 1) M96 _ _ _ hw hP hS (lv_sub hl [5, 3, 0] rfl)
              · replace hw := if_t h hw
                refine lv_iload_n (pc := 106) hx hb dX9_read_106 rfl (lv_at hl 5 rfl) ?_
                exact r_iret (pc := 107) C hP hS hw dX9_read_107
            · replace hw := if_t h hw
              refine lv_iload_n (pc := 80) hx hb dX9_read_80 rfl (lv_at hl 2 rfl) ?_
              refine lv_bipush (pc := 81) (v := (48 : Int32)) hx hb dX9_read_81 (by decide) ?_
              refine lv_bipush (pc := 83) (v := (57 : Int32)) hx hb dX9_read_83 (by decide) ?_
              refine r_cSI (pc := 85) (rest := []) (As := [.int x3_25, .int (48 : Int32), .int (57 : Int32)]) C hl.1 hP hS (k_X9_in l G hC  hw) mw_779 mw_780 mw_65 mw_781 ⟨rfl, rfl⟩ hd_X9_in rfl rfl ⟨Nat.le_of_ble_eq_true rfl, Nat.le_of_ble_eq_true rfl⟩ (Nat.le_of_ble_eq_true rfl) ⟨Nat.zero_le _, Nat.zero_le _⟩ dX9_read_85 (fun r85 M85 H locs hw hP hS => ?_)
              refine lv_goto (pc := 88) (tgt := 99) hx hb dX9_read_88 (by decide) ?_
              refine lv_istore (pc := 99) (lv' := [(5, .int r85), (4, .int x4_49), (1, .int (x1 + (-1))), (3, .int x3_25), (0, .ref (ad (29, 0, 0, 0))), (2, .int x2)]) hx hb dX9_read_99 hl (by decide) rfl (fun ls hl => ?_)
              refine lv_iload (pc := 101) hx hb dX9_read_101 (lv_at hl 0 rfl) ?_
              refine lv_if_ne (pc := 103) (tgt := 108) hx hb dX9_read_103 (by decide) (fun h => ?_) (fun h => ?_)
              · replace hw := if_f h hw
                refine lv_goto (pc := 108) (tgt := 279) hx hb dX9_read_108 (by decide) ?_
                refine lv_iinc (pc := 279) (v := x2 + 1) (lv' := [(2, .int (x2 + 1)), (5, .int r85), (4, .int x4_49), (1, .int (x1 + (-1))), (3, .int x3_25), (0, .ref (ad (29, 0, 0, 0)))]) hx hb dX9_read_279 hl (k := 5) rfl rfl (by decide) rfl (fun ls hl => ?_)
                refine lv_goto (pc := 282) (tgt := 11) hx hb dX9_read_282 (by decide) ?_
                exact ih (x1 + (-1)) (x2 + 1) M85 _ _ _ hw hP hS (lv_sub hl [5, 3, 0] rfl)
              · replace hw := if_t h hw
                refine lv_iload_n (pc := 106) hx hb dX9_read_106 rfl (lv_at hl 5 rfl) ?_
                exact r_iret (pc := 107) C hP hS hw dX9_read_107
          · replace hw := if_t h hw
            refine lv_iload_n (pc := 63) hx hb dX9_read_63 rfl (lv_at hl 2 rfl) ?_
            refine lv_bipush (pc := 64) (v := (97 : Int32)) hx hb dX9_read_64 (by decide) ?_
            refine lv_bipush (pc := 66) (v := (100 : Int32)) hx hb dX9_read_66 (by decide) ?_
            refine r_cSI (pc := 68) (rest := []) (As := [.int x3_25, .int (97 : Int32), .int (100 : Int32)]) C hl.1 hP hS (k_X9_in l G hC  hw) mw_779 mw_780 mw_65 mw_781 ⟨rfl, rfl⟩ hd_X9_in rfl rfl ⟨Nat.le_of_ble_eq_true rfl, Nat.le_of_ble_eq_true rfl⟩ (Nat.le_of_ble_eq_true rfl) ⟨Nat.zero_le _, Nat.zero_le _⟩ dX9_read_68 (fun r68 M68 H locs hw hP hS => ?_)
            refine lv_goto (pc := 71) (tgt := 99) hx hb dX9_read_71 (by decide) ?_
            refine lv_istore (pc := 99) (lv' := [(5, .int r68), (4, .int x4_49), (1, .int (x1 + (-1))), (3, .int x3_25), (0, .ref (ad (29, 0, 0, 0))), (2, .int x2)]) hx hb dX9_read_99 hl (by decide) rfl (fun ls hl => ?_)
            refine lv_iload (pc := 101) hx hb dX9_read_101 (lv_at hl 0 rfl) ?_
            refine lv_if_ne (pc := 103) (tgt := 108) hx hb dX9_read_103 (by decide) (fun h => ?_) (fun h => ?_)
            · replace hw := if_f h hw
              refine lv_goto (pc := 108) (tgt := 279) hx hb dX9_read_108 (by decide) ?_
              refine lv_iinc (pc := 279) (v := x2 + 1) (lv' := [(2, .int (x2 + 1)), (5, .int r68), (4, .int x4_49), (1, .int (x1 + (-1))), (3, .int x3_25), (0, .ref (ad (29, 0, 0, 0)))]) hx hb dX9_read_279 hl (k := 5) rfl rfl (by decide) rfl (fun ls hl => ?_)
              refine lv_goto (pc := 282) (tgt := 11) hx hb dX9_read_282 (by decide) ?_
              exact ih (x1 + (-1)) (x2 + 1) M68 _ _ _ hw hP hS (lv_sub hl [5, 3, 0] rfl)
            · replace hw := if_t h hw
              refine lv_iload_n (pc := 106) hx hb dX9_read_106 rfl (lv_at hl 5 rfl) ?_
              exact r_iret (pc := 107) C hP hS hw dX9_read_107
      · replace hw := if_t h hw
        refine lv_iload_n (pc := 38) hx hb dX9_read_38 rfl (lv_at hl 3 rfl) ?_
        exact r_iret (pc := 39) C hP hS hw dX9_read_39
set_option maxHeartbeats 4000000 in
set_option maxRecDepth 100000 in
theorem j_X9_read_0 (C : cx p s m args meth c cX9_read 7 (some .int) RX9 G) (hC : clo I) (h0 : I (29, 0, 0, 0)) {Q : Int32 → Mem → Prop} : ∀ (M : Mem) (H : Heap) (locs : List Loc) (ls : Array Slot), w_X9_read Q M → wd G I ad M H → va_S (fA I ad) s.heap H locs → lv_has ls 7 [(0, .ref (ad (29, 0, 0, 0)))] → W p l e rm_X9_read s m args below meth c H locs 0 0 (MQ below (qI G I ad Q) args s 0 0 (fA I ad)) (F0 m 0 ls []) := by
  have hx := C.1
  have hb := C.2.1
  have hown := C.2.2.2.1
  have hts := C.2.2.2.2.1
  intro M H locs ls hw hP hS hl
  unfold w_X9_read at hw
  refine lv_iconst (pc := 0) (v := (1 : Int32)) hx hb dX9_read_0 (by decide) ?_
  refine lv_istore_n (pc := 1) (lv' := [(1, .int (1 : Int32)), (0, .ref (ad (29, 0, 0, 0)))]) hx hb dX9_read_1 rfl hl (by decide) rfl (fun ls hl => ?_)
  refine lv_aload_n (pc := 2) hx hb dX9_read_2 rfl (lv_at hl 1 rfl) ?_
  refine gf_726 (pc := 3) C hP h0 dX9_read_3 ?_
  refine lv_iconst (pc := 6) (v := (0 : Int32)) hx hb dX9_read_6 (by decide) ?_
  refine lv_iconst (pc := 7) (v := (1 : Int32)) hx hb dX9_read_7 (by decide) ?_
  refine r_iastK (pc := 8) (n := 200) (k := 0) C hP hS (cl_29_10 hC h0) (fun _ _ _ _ => rfl) (vpc (by decide)) (by decide) dX9_read_8 (fun H locs hP hS => ?_)
  refine lv_iconst (pc := 9) (v := (0 : Int32)) hx hb dX9_read_9 (by decide) ?_
  refine lv_istore_n (pc := 10) (lv' := [(2, .int (0 : Int32)), (1, .int (1 : Int32)), (0, .ref (ad (29, 0, 0, 0)))]) hx hb dX9_read_10 rfl hl (by decide) rfl (fun ls hl => ?_)
  obtain ⟨n0, hw⟩ := hw
  exact j_X9_read_11 C hC h0 n0 (1 : Int32) (0 : Int32) (mu M (39, 0, 0, 0) 0 (1 : Int32)) _ _ _ hw hP hS (lv_sub hl [2, 1, 0] rfl)
end
theorem k_X9_read (l : Launch) (G : GG) {I : ix → Prop} {ad : ix → Nat} (hC : clo I) (h0 : I (29, 0, 0, 0)) {Q : Int32 → Mem → Prop} {M : Mem} (hw : w_X9_read Q M) : Met l yX9_read (wW yX9_read cX9_read 7 (some .int)) rm_X9_read (va_Pc [.ref (ad (29, 0, 0, 0))] (fun U => wd G I ad M U.heap ∧ wK G U)) (qI G I ad Q) 0 0 (fA I ad) := met_of (by decide +kernel) (Nat.le_of_ble_eq_true rfl) (fun p e s m below meth c C hP hS ls hl => j_X9_read_0 C hC h0 _ _ _ _ hw hP hS hl)
section
variable {p : Program} {l : Launch} {e : Env} {s : State} {m : MethodId} {args : Array Value} {below : List Frame} {meth : Method} {c : Code} 
variable  {G : GG} {I : ix → Prop} {ad : ix → Nat}
set_option maxHeartbeats 4000000 in
set_option maxRecDepth 100000 in
theorem j_X9_fault_0 (C : cx p s m args meth c cX9_fault 1 (some .int) RX9 G) (hC : clo I) (h0 : I (29, 0, 0, 0)) {Q : Int32 → Mem → Prop} : ∀ (M : Mem) (H : Heap) (locs : List Loc) (ls : Array Slot), w_X9_fault Q M → wd G I ad M H → va_S (fA I ad) s.heap H locs → lv_has ls 1 [(0, .ref (ad (29, 0, 0, 0)))] → W p l e rm_X9_fault s m args below meth c H locs 0 0 (MQ below (qI G I ad Q) args s 0 0 (fA I ad)) (F0 m 0 ls []) := by
  have hx := C.1
  have hb := C.2.1
  have hown := C.2.2.2.1
  have hts := C.2.2.2.2.1
  intro M H locs ls hw hP hS hl
  unfold w_X9_fault at hw
  refine lv_aload_n (pc := 0) hx hb dX9_fault_0 rfl (lv_at hl 0 rfl) ?_
  refine r_cVI (pc := 1) (rest := []) (As := []) C hl.1 hP hS (k_X9_read l G hC h0 hw) h0 rfl rfl mw_843 mw_845 mw_41 mw_65 mw_846 ⟨rfl, rfl⟩ hd_X9_read rfl rfl ⟨Nat.le_of_ble_eq_true rfl, Nat.le_of_ble_eq_true rfl⟩ (Nat.le_of_ble_eq_true rfl) ⟨Nat.zero_le _, Nat.zero_le _⟩ dX9_fault_1 (fun r1 M1 H locs hw hP hS => ?_)
  exact r_iret (pc := 4) C hP hS hw dX9_fault_4
end
theorem k_X9_fault (l : Launch) (G : GG) {I : ix → Prop} {ad : ix → Nat} (hC : clo I) (h0 : I (29, 0, 0, 0)) {Q : Int32 → Mem → Prop} {M : Mem} (hw : w_X9_fault Q M) : Met l yX9_fault (wW yX9_fault cX9_fault 1 (some .int)) rm_X9_fault (va_Pc [.ref (ad (29, 0, 0, 0))] (fun U => wd G I ad M U.heap ∧ wK G U)) (qI G I ad Q) 0 0 (fA I ad) := met_of (by decide +kernel) (Nat.le_of_ble_eq_true rfl) (fun p e s m below meth c C hP hS ls hl => j_X9_fault_0 C hC h0 _ _ _ _ hw hP hS hl)
