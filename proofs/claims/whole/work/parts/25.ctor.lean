/-- known, with what is known of the first n columns made new -/
def clrs (M : Mem) (n : Nat) : Mem := mr M (32, 0, 0, 0) (fun j => if j < 12 * n then (if j % 12 < 2 then -2000000 else 0) else M.1 (32, 0, 0, 0) j)
theorem clrs_0 (M : Mem) : clrs M 0 = M := by
  unfold clrs
  have : (fun j => if j < 12 * 0 then (if j % 12 < 2 then (-2000000 : Int32) else 0) else M.1 (32, 0, 0, 0) j) = M.1 (32, 0, 0, 0) := by
    funext j
    rw [if_neg (by omega)]
  rw [this, mr_self]
theorem clrs_succ (M : Mem) (n : Nat) : clr (clrs M n) n 12 = clrs M (n + 1) := by
  unfold clr clrs
  rw [mr_mr, mr_at]
  congr 1
  funext j
  repeat' split
  all_goals first | rfl | (exfalso; omega)
theorem f29c (q : Nat) : (if q = 17 then some (46, 0, 0, 0) else if q = 16 then some (45, 0, 0, 0) else if q = 15 then some (44, 0, 0, 0) else if q = 14 then some (43, 0, 0, 0) else if q = 13 then some (42, 0, 0, 0) else if q = 12 then some (41, 0, 0, 0) else if q = 11 then some (40, 0, 0, 0) else if q = 10 then some (39, 0, 0, 0) else if q = 9 then some (38, 0, 0, 0) else if q = 8 then some (37, 0, 0, 0) else if q = 7 then some (36, 0, 0, 0) else if q = 6 then some (35, 0, 0, 0) else if q = 5 then some (34, 0, 0, 0) else if q = 3 then some (33, 0, 0, 0) else if q = 2 then some (32, 0, 0, 0) else if q = 1 then some (31, 0, 0, 0) else if q = 0 then some (30, 0, 0, 0) else none) = f0 (29, 0, 0, 0) q := by
  show _ = (if q ≤ 3 then some ((30 + q, 0, 0, 0) : ix) else if 5 ≤ q ∧ q ≤ 17 then some (29 + q, 0, 0, 0) else none)
  rcases (show q = 0 ∨ q = 1 ∨ q = 2 ∨ q = 3 ∨ q = 4 ∨ q = 5 ∨ q = 6 ∨ q = 7 ∨ q = 8 ∨ q = 9 ∨ q = 10 ∨ q = 11 ∨ q = 12 ∨ q = 13 ∨ q = 14 ∨ q = 15 ∨ q = 16 ∨ q = 17 ∨ 18 ≤ q by omega) with rfl | rfl | rfl | rfl | rfl | rfl | rfl | rfl | rfl | rfl | rfl | rfl | rfl | rfl | rfl | rfl | rfl | rfl | h
  · rfl
  · rfl
  · rfl
  · rfl
  · rfl
  · rfl
  · rfl
  · rfl
  · rfl
  · rfl
  · rfl
  · rfl
  · rfl
  · rfl
  · rfl
  · rfl
  · rfl
  · rfl
  · rw [if_neg (show ¬ q = 17 by omega), if_neg (show ¬ q = 16 by omega), if_neg (show ¬ q = 15 by omega), if_neg (show ¬ q = 14 by omega), if_neg (show ¬ q = 13 by omega), if_neg (show ¬ q = 12 by omega), if_neg (show ¬ q = 11 by omega), if_neg (show ¬ q = 10 by omega), if_neg (show ¬ q = 9 by omega), if_neg (show ¬ q = 8 by omega), if_neg (show ¬ q = 7 by omega), if_neg (show ¬ q = 6 by omega), if_neg (show ¬ q = 5 by omega), if_neg (show ¬ q = 3 by omega), if_neg (show ¬ q = 2 by omega), if_neg (show ¬ q = 1 by omega), if_neg (show ¬ q = 0 by omega), if_neg (by omega), if_neg (by omega)]
theorem fr_X9 {F : Fm} (hF0 : F (29, 0, 0, 0) = fun _ => none) : (fu (jF (jO (46, 0, 0, 0)) (fu (jF (jO (45, 0, 0, 0)) (fu (jF (jO (44, 0, 0, 0)) (fu (jF (jO (43, 0, 0, 0)) (fu (jF (jO (42, 0, 0, 0)) (fu (jF (jO (41, 0, 0, 0)) (fu (jF (jO (40, 0, 0, 0)) (fu (jF (jO (39, 0, 0, 0)) (fu (jF (jO (38, 0, 0, 0)) (fu (jF (jO (37, 0, 0, 0)) (fu (jF (jO (36, 0, 0, 0)) (fu (jF (jO (35, 0, 0, 0)) (fu (jF (jO (34, 0, 0, 0)) (fu (jF (jO (33, 0, 0, 0)) (fu (jF (jO (32, 0, 0, 0)) (fu (jF (jO (31, 0, 0, 0)) (fu (jF (jO (30, 0, 0, 0)) F) (29, 0, 0, 0) 0 (30, 0, 0, 0))) (29, 0, 0, 0) 1 (31, 0, 0, 0))) (29, 0, 0, 0) 2 (32, 0, 0, 0))) (29, 0, 0, 0) 3 (33, 0, 0, 0))) (29, 0, 0, 0) 5 (34, 0, 0, 0))) (29, 0, 0, 0) 6 (35, 0, 0, 0))) (29, 0, 0, 0) 7 (36, 0, 0, 0))) (29, 0, 0, 0) 8 (37, 0, 0, 0))) (29, 0, 0, 0) 9 (38, 0, 0, 0))) (29, 0, 0, 0) 10 (39, 0, 0, 0))) (29, 0, 0, 0) 11 (40, 0, 0, 0))) (29, 0, 0, 0) 12 (41, 0, 0, 0))) (29, 0, 0, 0) 13 (42, 0, 0, 0))) (29, 0, 0, 0) 14 (43, 0, 0, 0))) (29, 0, 0, 0) 15 (44, 0, 0, 0))) (29, 0, 0, 0) 16 (45, 0, 0, 0))) (29, 0, 0, 0) 17 (46, 0, 0, 0)) (29, 0, 0, 0) = f0 (29, 0, 0, 0) := by
  funext q
  rw [← f29c q]
  simp [fu, jF, jO, cif_false, hF0]
abbrev rmI_X9 : Room := { frames := 1, cells := 17, slots := 2244, locals := 22 }
theorem hd_X9_init : yX9_init.cls ≠ "java/lang/invoke/MethodHandle" ∧ yX9_init.cls ≠ "java/lang/invoke/VarHandle" ∧ (parseMethodDescriptor yX9_init.desc).map (fun d => d.parameters.length) = some 0 := ⟨by decide +kernel, by decide +kernel, by decide +kernel⟩
set_option maxHeartbeats 4000000 in
set_option maxRecDepth 100000 in
theorem kI_X9 (l : Launch) (G : GG) {I : ix → Prop} {ad : ix → Nat} {M : Mem} {F : Fm} {sz a : Nat} (ha : ad (29, 0, 0, 0) = a) (hroot : I (29, 0, 0, 0)) (hM0 : M.1 (29, 0, 0, 0) = fun _ => 0) (hF0 : F (29, 0, 0, 0) = fun _ => none) (hfr : ∀ i, I i → (jK 29 18) i → i = (29, 0, 0, 0)) : Met l yX9_init (wW yX9_init cX9_init 2 none) rmI_X9 (iPc G I ad M F sz [.ref a]) (iQ G I ad (jU (jK 29 18) I) (jM (jK 29 18) M) (jF (jK 29 18) F) a sz) 17 2244 (iA a sz) := by
  refine met_ofI (by decide +kernel) (Nat.le_of_ble_eq_true rfl) rfl (fun p e s m below meth c hsz C haK hin hP hS ls hl => ?_)
  have hx := C.1
  have hb := C.2.1
  have hown := C.2.2.2.1
  have hts := C.2.2.2.2.1
  have hA : ∀ q, s.heap.size ≤ q → iA a s.heap.size q := fun q h => Or.inr h
  have hI_t := hroot
  have hq_t := ha
  have hxt : ∀ j, I j → ad j = ad j := fun _ _ => rfl
  have hup : ∀ j, I j → I j := fun _ h => h
  have hnw : ∀ j, I j → ¬ I j → s.heap.size ≤ ad j := fun j h1 h2 => absurd h1 h2
  have hl : lv_has ls 2 [(0, .ref a)] := hl
  refine lv_aload_n (pc := 0) hx hb dX9_init_0 rfl (lv_at hl 0 rfl) ?_
  refine r2_obj (pc := 1) C hl.1 mw_710 mw_74 mw_75 dX9_init_1 (Nat.le_of_ble_eq_true rfl) (Nat.le_of_ble_eq_true rfl) ?_
  refine lv_aload_n (pc := 4) hx hb dX9_init_4 rfl (lv_at hl 0 rfl) ?_
  refine lv_sipush (pc := 5) (v := (192 : Int32)) hx hb dX9_init_5 (by decide) ?_
  have hf5 : ∀ i, I i → ¬ (jO (30, 0, 0, 0)) i := by
    intro i hi hJ
    have hJ2 : (jK 29 18) i := ⟨30, by decide, by decide, hJ⟩
    have he := hfr i hi hJ2
    subst he
    simp [jO] at hJ
  refine r2_newI (pc := 8) (i := (30, 0, 0, 0)) (A := iA a s.heap.size) C hP hS (fun h => hf5 _ h rfl) (show (30 : Nat) ≠ 27 by decide) rfl mw_135 (by decide) (by decide) (Nat.le_of_ble_eq_true rfl) (Nat.le_of_ble_eq_true rfl) (Nat.le_of_ble_eq_true rfl) dX9_init_8 (fun q5 ad5 H e5 hx5 hz5 hP hS => ?_)
  replace hP := hP.toJ rfl rfl
  replace hq_t := (hx5 _ hI_t).trans hq_t
  replace hI_t : (jU (jO (30, 0, 0, 0)) I) (29, 0, 0, 0) := Or.inr hI_t
  replace hxt : ∀ j, I j → ad5 j = ad j := fun j hj => (hx5 j (hup j hj)).trans (hxt j hj)
  replace hup : ∀ j, I j → (jU (jO (30, 0, 0, 0)) I) j := fun j hj => Or.inr (hup j hj)
  replace hnw : ∀ j, (jU (jO (30, 0, 0, 0)) I) j → ¬ I j → s.heap.size ≤ ad5 j := fun j hj hn => hj.elim (fun h => by have h : j = (30, 0, 0, 0) := h; rw [h, e5]; exact hz5) (fun h => by rw [hx5 j h]; exact hnw j h hn)
  have hI_n5 : (jU (jO (30, 0, 0, 0)) I) (30, 0, 0, 0) := Or.inl rfl
  have hq_n5 := e5
  have hA_n5 : iA a s.heap.size q5 := Or.inr hz5
  refine pF_716 (pc := 10) C hin hP hS hI_t hI_n5 (Or.inl rfl) hq_t hq_n5 dX9_init_10 (fun H locs hP hS => ?_)
  refine lv_aload_n (pc := 13) hx hb dX9_init_13 rfl (lv_at hl 0 rfl) ?_
  refine lv_bipush (pc := 14) (v := (6 : Int32)) hx hb dX9_init_14 (by decide) ?_
  have hf9 : ∀ i, (jU (jO (30, 0, 0, 0)) I) i → ¬ (jO (31, 0, 0, 0)) i := by
    intro i hi hJ
    have hJ2 : (jK 29 18) i := ⟨31, by decide, by decide, hJ⟩
    rcases hi with hi | hi
    · have h1 := jO_r hi; have h2 := jO_r hJ; (try dsimp only at h1); (try dsimp only at h2); omega
    · have he := hfr i hi hJ2
      subst he
      simp [jO] at hJ
  refine r2_newI (pc := 16) (i := (31, 0, 0, 0)) (A := iA a s.heap.size) C hP hS (fun h => hf9 _ h rfl) (show (31 : Nat) ≠ 27 by decide) rfl mw_135 (by decide) (by decide) (Nat.le_of_ble_eq_true rfl) (Nat.le_of_ble_eq_true rfl) (Nat.le_of_ble_eq_true rfl) dX9_init_16 (fun q9 ad9 H e9 hx9 hz9 hP hS => ?_)
  replace hP := hP.toJ rfl rfl
  replace hq_t := (hx9 _ hI_t).trans hq_t
  replace hI_t : (jU (jO (31, 0, 0, 0)) (jU (jO (30, 0, 0, 0)) I)) (29, 0, 0, 0) := Or.inr hI_t
  replace hq_n5 := (hx9 _ hI_n5).trans hq_n5
  replace hI_n5 : (jU (jO (31, 0, 0, 0)) (jU (jO (30, 0, 0, 0)) I)) (30, 0, 0, 0) := Or.inr hI_n5
  replace hxt : ∀ j, I j → ad9 j = ad j := fun j hj => (hx9 j (hup j hj)).trans (hxt j hj)
  replace hup : ∀ j, I j → (jU (jO (31, 0, 0, 0)) (jU (jO (30, 0, 0, 0)) I)) j := fun j hj => Or.inr (hup j hj)
  replace hnw : ∀ j, (jU (jO (31, 0, 0, 0)) (jU (jO (30, 0, 0, 0)) I)) j → ¬ I j → s.heap.size ≤ ad9 j := fun j hj hn => hj.elim (fun h => by have h : j = (31, 0, 0, 0) := h; rw [h, e9]; exact hz9) (fun h => by rw [hx9 j h]; exact hnw j h hn)
  have hI_n9 : (jU (jO (31, 0, 0, 0)) (jU (jO (30, 0, 0, 0)) I)) (31, 0, 0, 0) := Or.inl rfl
  have hq_n9 := e9
  have hA_n9 : iA a s.heap.size q9 := Or.inr hz9
  refine pF_717 (pc := 18) C hin hP hS hI_t hI_n9 (Or.inl rfl) hq_t hq_n9 dX9_init_18 (fun H locs hP hS => ?_)
  refine lv_aload_n (pc := 21) hx hb dX9_init_21 rfl (lv_at hl 0 rfl) ?_
  refine lv_sipush (pc := 22) (v := (288 : Int32)) hx hb dX9_init_22 (by decide) ?_
  have hf13 : ∀ i, (jU (jO (31, 0, 0, 0)) (jU (jO (30, 0, 0, 0)) I)) i → ¬ (jO (32, 0, 0, 0)) i := by
    intro i hi hJ
    have hJ2 : (jK 29 18) i := ⟨32, by decide, by decide, hJ⟩
    rcases hi with hi | hi | hi
    · have h1 := jO_r hi; have h2 := jO_r hJ; (try dsimp only at h1); (try dsimp only at h2); omega
    · have h1 := jO_r hi; have h2 := jO_r hJ; (try dsimp only at h1); (try dsimp only at h2); omega
    · have he := hfr i hi hJ2
      subst he
      simp [jO] at hJ
  refine r2_newI (pc := 25) (i := (32, 0, 0, 0)) (A := iA a s.heap.size) C hP hS (fun h => hf13 _ h rfl) (show (32 : Nat) ≠ 27 by decide) rfl mw_135 (by decide) (by decide) (Nat.le_of_ble_eq_true rfl) (Nat.le_of_ble_eq_true rfl) (Nat.le_of_ble_eq_true rfl) dX9_init_25 (fun q13 ad13 H e13 hx13 hz13 hP hS => ?_)
  replace hP : w2 G (jU (jO (32, 0, 0, 0)) (jU (jO (31, 0, 0, 0)) (jU (jO (30, 0, 0, 0)) I))) ad13 (mr (jM (jO (31, 0, 0, 0)) (jM (jO (30, 0, 0, 0)) M)) (32, 0, 0, 0) (fun _ => 0)) (jF (jO (32, 0, 0, 0)) (fu (jF (jO (31, 0, 0, 0)) (fu (jF (jO (30, 0, 0, 0)) F) (29, 0, 0, 0) 0 (30, 0, 0, 0))) (29, 0, 0, 0) 1 (31, 0, 0, 0))) H := by rw [← jF_one (i := (32, 0, 0, 0)) rfl]; exact hP
  replace hq_t := (hx13 _ hI_t).trans hq_t
  replace hI_t : (jU (jO (32, 0, 0, 0)) (jU (jO (31, 0, 0, 0)) (jU (jO (30, 0, 0, 0)) I))) (29, 0, 0, 0) := Or.inr hI_t
  replace hq_n5 := (hx13 _ hI_n5).trans hq_n5
  replace hI_n5 : (jU (jO (32, 0, 0, 0)) (jU (jO (31, 0, 0, 0)) (jU (jO (30, 0, 0, 0)) I))) (30, 0, 0, 0) := Or.inr hI_n5
  replace hq_n9 := (hx13 _ hI_n9).trans hq_n9
  replace hI_n9 : (jU (jO (32, 0, 0, 0)) (jU (jO (31, 0, 0, 0)) (jU (jO (30, 0, 0, 0)) I))) (31, 0, 0, 0) := Or.inr hI_n9
  replace hxt : ∀ j, I j → ad13 j = ad j := fun j hj => (hx13 j (hup j hj)).trans (hxt j hj)
  replace hup : ∀ j, I j → (jU (jO (32, 0, 0, 0)) (jU (jO (31, 0, 0, 0)) (jU (jO (30, 0, 0, 0)) I))) j := fun j hj => Or.inr (hup j hj)
  replace hnw : ∀ j, (jU (jO (32, 0, 0, 0)) (jU (jO (31, 0, 0, 0)) (jU (jO (30, 0, 0, 0)) I))) j → ¬ I j → s.heap.size ≤ ad13 j := fun j hj hn => hj.elim (fun h => by have h : j = (32, 0, 0, 0) := h; rw [h, e13]; exact hz13) (fun h => by rw [hx13 j h]; exact hnw j h hn)
  have hI_n13 : (jU (jO (32, 0, 0, 0)) (jU (jO (31, 0, 0, 0)) (jU (jO (30, 0, 0, 0)) I))) (32, 0, 0, 0) := Or.inl rfl
  have hq_n13 := e13
  have hA_n13 : iA a s.heap.size q13 := Or.inr hz13
  refine pF_718 (pc := 27) C hin hP hS hI_t hI_n13 (Or.inl rfl) hq_t hq_n13 dX9_init_27 (fun H locs hP hS => ?_)
  refine lv_aload_n (pc := 30) hx hb dX9_init_30 rfl (lv_at hl 0 rfl) ?_
  refine lv_bipush (pc := 31) (v := (12 : Int32)) hx hb dX9_init_31 (by decide) ?_
  have hf17 : ∀ i, (jU (jO (32, 0, 0, 0)) (jU (jO (31, 0, 0, 0)) (jU (jO (30, 0, 0, 0)) I))) i → ¬ (jO (33, 0, 0, 0)) i := by
    intro i hi hJ
    have hJ2 : (jK 29 18) i := ⟨33, by decide, by decide, hJ⟩
    rcases hi with hi | hi | hi | hi
    · have h1 := jO_r hi; have h2 := jO_r hJ; (try dsimp only at h1); (try dsimp only at h2); omega
    · have h1 := jO_r hi; have h2 := jO_r hJ; (try dsimp only at h1); (try dsimp only at h2); omega
    · have h1 := jO_r hi; have h2 := jO_r hJ; (try dsimp only at h1); (try dsimp only at h2); omega
    · have he := hfr i hi hJ2
      subst he
      simp [jO] at hJ
  refine r2_newI (pc := 33) (i := (33, 0, 0, 0)) (A := iA a s.heap.size) C hP hS (fun h => hf17 _ h rfl) (show (33 : Nat) ≠ 27 by decide) rfl mw_135 (by decide) (by decide) (Nat.le_of_ble_eq_true rfl) (Nat.le_of_ble_eq_true rfl) (Nat.le_of_ble_eq_true rfl) dX9_init_33 (fun q17 ad17 H e17 hx17 hz17 hP hS => ?_)
  replace hP := hP.toJ rfl rfl
  replace hq_t := (hx17 _ hI_t).trans hq_t
  replace hI_t : (jU (jO (33, 0, 0, 0)) (jU (jO (32, 0, 0, 0)) (jU (jO (31, 0, 0, 0)) (jU (jO (30, 0, 0, 0)) I)))) (29, 0, 0, 0) := Or.inr hI_t
  replace hq_n5 := (hx17 _ hI_n5).trans hq_n5
  replace hI_n5 : (jU (jO (33, 0, 0, 0)) (jU (jO (32, 0, 0, 0)) (jU (jO (31, 0, 0, 0)) (jU (jO (30, 0, 0, 0)) I)))) (30, 0, 0, 0) := Or.inr hI_n5
  replace hq_n9 := (hx17 _ hI_n9).trans hq_n9
  replace hI_n9 : (jU (jO (33, 0, 0, 0)) (jU (jO (32, 0, 0, 0)) (jU (jO (31, 0, 0, 0)) (jU (jO (30, 0, 0, 0)) I)))) (31, 0, 0, 0) := Or.inr hI_n9
  replace hq_n13 := (hx17 _ hI_n13).trans hq_n13
  replace hI_n13 : (jU (jO (33, 0, 0, 0)) (jU (jO (32, 0, 0, 0)) (jU (jO (31, 0, 0, 0)) (jU (jO (30, 0, 0, 0)) I)))) (32, 0, 0, 0) := Or.inr hI_n13
  replace hxt : ∀ j, I j → ad17 j = ad j := fun j hj => (hx17 j (hup j hj)).trans (hxt j hj)
  replace hup : ∀ j, I j → (jU (jO (33, 0, 0, 0)) (jU (jO (32, 0, 0, 0)) (jU (jO (31, 0, 0, 0)) (jU (jO (30, 0, 0, 0)) I)))) j := fun j hj => Or.inr (hup j hj)
  replace hnw : ∀ j, (jU (jO (33, 0, 0, 0)) (jU (jO (32, 0, 0, 0)) (jU (jO (31, 0, 0, 0)) (jU (jO (30, 0, 0, 0)) I)))) j → ¬ I j → s.heap.size ≤ ad17 j := fun j hj hn => hj.elim (fun h => by have h : j = (33, 0, 0, 0) := h; rw [h, e17]; exact hz17) (fun h => by rw [hx17 j h]; exact hnw j h hn)
  have hI_n17 : (jU (jO (33, 0, 0, 0)) (jU (jO (32, 0, 0, 0)) (jU (jO (31, 0, 0, 0)) (jU (jO (30, 0, 0, 0)) I)))) (33, 0, 0, 0) := Or.inl rfl
  have hq_n17 := e17
  have hA_n17 : iA a s.heap.size q17 := Or.inr hz17
  refine pF_719 (pc := 35) C hin hP hS hI_t hI_n17 (Or.inl rfl) hq_t hq_n17 dX9_init_35 (fun H locs hP hS => ?_)
  refine lv_aload_n (pc := 38) hx hb dX9_init_38 rfl (lv_at hl 0 rfl) ?_
  refine lv_bipush (pc := 39) (v := (60 : Int32)) hx hb dX9_init_39 (by decide) ?_
  have hf21 : ∀ i, (jU (jO (33, 0, 0, 0)) (jU (jO (32, 0, 0, 0)) (jU (jO (31, 0, 0, 0)) (jU (jO (30, 0, 0, 0)) I)))) i → ¬ (jO (34, 0, 0, 0)) i := by
    intro i hi hJ
    have hJ2 : (jK 29 18) i := ⟨34, by decide, by decide, hJ⟩
    rcases hi with hi | hi | hi | hi | hi
    · have h1 := jO_r hi; have h2 := jO_r hJ; (try dsimp only at h1); (try dsimp only at h2); omega
    · have h1 := jO_r hi; have h2 := jO_r hJ; (try dsimp only at h1); (try dsimp only at h2); omega
    · have h1 := jO_r hi; have h2 := jO_r hJ; (try dsimp only at h1); (try dsimp only at h2); omega
    · have h1 := jO_r hi; have h2 := jO_r hJ; (try dsimp only at h1); (try dsimp only at h2); omega
    · have he := hfr i hi hJ2
      subst he
      simp [jO] at hJ
  refine r2_newI (pc := 41) (i := (34, 0, 0, 0)) (A := iA a s.heap.size) C hP hS (fun h => hf21 _ h rfl) (show (34 : Nat) ≠ 27 by decide) rfl mw_135 (by decide) (by decide) (Nat.le_of_ble_eq_true rfl) (Nat.le_of_ble_eq_true rfl) (Nat.le_of_ble_eq_true rfl) dX9_init_41 (fun q21 ad21 H e21 hx21 hz21 hP hS => ?_)
  replace hP := hP.toJ rfl rfl
  replace hq_t := (hx21 _ hI_t).trans hq_t
  replace hI_t : (jU (jO (34, 0, 0, 0)) (jU (jO (33, 0, 0, 0)) (jU (jO (32, 0, 0, 0)) (jU (jO (31, 0, 0, 0)) (jU (jO (30, 0, 0, 0)) I))))) (29, 0, 0, 0) := Or.inr hI_t
  replace hq_n5 := (hx21 _ hI_n5).trans hq_n5
  replace hI_n5 : (jU (jO (34, 0, 0, 0)) (jU (jO (33, 0, 0, 0)) (jU (jO (32, 0, 0, 0)) (jU (jO (31, 0, 0, 0)) (jU (jO (30, 0, 0, 0)) I))))) (30, 0, 0, 0) := Or.inr hI_n5
  replace hq_n9 := (hx21 _ hI_n9).trans hq_n9
  replace hI_n9 : (jU (jO (34, 0, 0, 0)) (jU (jO (33, 0, 0, 0)) (jU (jO (32, 0, 0, 0)) (jU (jO (31, 0, 0, 0)) (jU (jO (30, 0, 0, 0)) I))))) (31, 0, 0, 0) := Or.inr hI_n9
  replace hq_n13 := (hx21 _ hI_n13).trans hq_n13
  replace hI_n13 : (jU (jO (34, 0, 0, 0)) (jU (jO (33, 0, 0, 0)) (jU (jO (32, 0, 0, 0)) (jU (jO (31, 0, 0, 0)) (jU (jO (30, 0, 0, 0)) I))))) (32, 0, 0, 0) := Or.inr hI_n13
  replace hq_n17 := (hx21 _ hI_n17).trans hq_n17
  replace hI_n17 : (jU (jO (34, 0, 0, 0)) (jU (jO (33, 0, 0, 0)) (jU (jO (32, 0, 0, 0)) (jU (jO (31, 0, 0, 0)) (jU (jO (30, 0, 0, 0)) I))))) (33, 0, 0, 0) := Or.inr hI_n17
  replace hxt : ∀ j, I j → ad21 j = ad j := fun j hj => (hx21 j (hup j hj)).trans (hxt j hj)
  replace hup : ∀ j, I j → (jU (jO (34, 0, 0, 0)) (jU (jO (33, 0, 0, 0)) (jU (jO (32, 0, 0, 0)) (jU (jO (31, 0, 0, 0)) (jU (jO (30, 0, 0, 0)) I))))) j := fun j hj => Or.inr (hup j hj)
  replace hnw : ∀ j, (jU (jO (34, 0, 0, 0)) (jU (jO (33, 0, 0, 0)) (jU (jO (32, 0, 0, 0)) (jU (jO (31, 0, 0, 0)) (jU (jO (30, 0, 0, 0)) I))))) j → ¬ I j → s.heap.size ≤ ad21 j := fun j hj hn => hj.elim (fun h => by have h : j = (34, 0, 0, 0) := h; rw [h, e21]; exact hz21) (fun h => by rw [hx21 j h]; exact hnw j h hn)
  have hI_n21 : (jU (jO (34, 0, 0, 0)) (jU (jO (33, 0, 0, 0)) (jU (jO (32, 0, 0, 0)) (jU (jO (31, 0, 0, 0)) (jU (jO (30, 0, 0, 0)) I))))) (34, 0, 0, 0) := Or.inl rfl
  have hq_n21 := e21
  have hA_n21 : iA a s.heap.size q21 := Or.inr hz21
  refine pF_721 (pc := 43) C hin hP hS hI_t hI_n21 (Or.inl rfl) hq_t hq_n21 dX9_init_43 (fun H locs hP hS => ?_)
  refine lv_aload_n (pc := 46) hx hb dX9_init_46 rfl (lv_at hl 0 rfl) ?_
  refine lv_bipush (pc := 47) (v := (60 : Int32)) hx hb dX9_init_47 (by decide) ?_
  have hf25 : ∀ i, (jU (jO (34, 0, 0, 0)) (jU (jO (33, 0, 0, 0)) (jU (jO (32, 0, 0, 0)) (jU (jO (31, 0, 0, 0)) (jU (jO (30, 0, 0, 0)) I))))) i → ¬ (jO (35, 0, 0, 0)) i := by
    intro i hi hJ
    have hJ2 : (jK 29 18) i := ⟨35, by decide, by decide, hJ⟩
    rcases hi with hi | hi | hi | hi | hi | hi
    · have h1 := jO_r hi; have h2 := jO_r hJ; (try dsimp only at h1); (try dsimp only at h2); omega
    · have h1 := jO_r hi; have h2 := jO_r hJ; (try dsimp only at h1); (try dsimp only at h2); omega
    · have h1 := jO_r hi; have h2 := jO_r hJ; (try dsimp only at h1); (try dsimp only at h2); omega
    · have h1 := jO_r hi; have h2 := jO_r hJ; (try dsimp only at h1); (try dsimp only at h2); omega
    · have h1 := jO_r hi; have h2 := jO_r hJ; (try dsimp only at h1); (try dsimp only at h2); omega
    · have he := hfr i hi hJ2
      subst he
      simp [jO] at hJ
  refine r2_newI (pc := 49) (i := (35, 0, 0, 0)) (A := iA a s.heap.size) C hP hS (fun h => hf25 _ h rfl) (show (35 : Nat) ≠ 27 by decide) rfl mw_135 (by decide) (by decide) (Nat.le_of_ble_eq_true rfl) (Nat.le_of_ble_eq_true rfl) (Nat.le_of_ble_eq_true rfl) dX9_init_49 (fun q25 ad25 H e25 hx25 hz25 hP hS => ?_)
  replace hP := hP.toJ rfl rfl
  replace hq_t := (hx25 _ hI_t).trans hq_t
  replace hI_t : (jU (jO (35, 0, 0, 0)) (jU (jO (34, 0, 0, 0)) (jU (jO (33, 0, 0, 0)) (jU (jO (32, 0, 0, 0)) (jU (jO (31, 0, 0, 0)) (jU (jO (30, 0, 0, 0)) I)))))) (29, 0, 0, 0) := Or.inr hI_t
  replace hq_n5 := (hx25 _ hI_n5).trans hq_n5
  replace hI_n5 : (jU (jO (35, 0, 0, 0)) (jU (jO (34, 0, 0, 0)) (jU (jO (33, 0, 0, 0)) (jU (jO (32, 0, 0, 0)) (jU (jO (31, 0, 0, 0)) (jU (jO (30, 0, 0, 0)) I)))))) (30, 0, 0, 0) := Or.inr hI_n5
  replace hq_n9 := (hx25 _ hI_n9).trans hq_n9
  replace hI_n9 : (jU (jO (35, 0, 0, 0)) (jU (jO (34, 0, 0, 0)) (jU (jO (33, 0, 0, 0)) (jU (jO (32, 0, 0, 0)) (jU (jO (31, 0, 0, 0)) (jU (jO (30, 0, 0, 0)) I)))))) (31, 0, 0, 0) := Or.inr hI_n9
  replace hq_n13 := (hx25 _ hI_n13).trans hq_n13
  replace hI_n13 : (jU (jO (35, 0, 0, 0)) (jU (jO (34, 0, 0, 0)) (jU (jO (33, 0, 0, 0)) (jU (jO (32, 0, 0, 0)) (jU (jO (31, 0, 0, 0)) (jU (jO (30, 0, 0, 0)) I)))))) (32, 0, 0, 0) := Or.inr hI_n13
  replace hq_n17 := (hx25 _ hI_n17).trans hq_n17
  replace hI_n17 : (jU (jO (35, 0, 0, 0)) (jU (jO (34, 0, 0, 0)) (jU (jO (33, 0, 0, 0)) (jU (jO (32, 0, 0, 0)) (jU (jO (31, 0, 0, 0)) (jU (jO (30, 0, 0, 0)) I)))))) (33, 0, 0, 0) := Or.inr hI_n17
  replace hq_n21 := (hx25 _ hI_n21).trans hq_n21
  replace hI_n21 : (jU (jO (35, 0, 0, 0)) (jU (jO (34, 0, 0, 0)) (jU (jO (33, 0, 0, 0)) (jU (jO (32, 0, 0, 0)) (jU (jO (31, 0, 0, 0)) (jU (jO (30, 0, 0, 0)) I)))))) (34, 0, 0, 0) := Or.inr hI_n21
  replace hxt : ∀ j, I j → ad25 j = ad j := fun j hj => (hx25 j (hup j hj)).trans (hxt j hj)
  replace hup : ∀ j, I j → (jU (jO (35, 0, 0, 0)) (jU (jO (34, 0, 0, 0)) (jU (jO (33, 0, 0, 0)) (jU (jO (32, 0, 0, 0)) (jU (jO (31, 0, 0, 0)) (jU (jO (30, 0, 0, 0)) I)))))) j := fun j hj => Or.inr (hup j hj)
  replace hnw : ∀ j, (jU (jO (35, 0, 0, 0)) (jU (jO (34, 0, 0, 0)) (jU (jO (33, 0, 0, 0)) (jU (jO (32, 0, 0, 0)) (jU (jO (31, 0, 0, 0)) (jU (jO (30, 0, 0, 0)) I)))))) j → ¬ I j → s.heap.size ≤ ad25 j := fun j hj hn => hj.elim (fun h => by have h : j = (35, 0, 0, 0) := h; rw [h, e25]; exact hz25) (fun h => by rw [hx25 j h]; exact hnw j h hn)
  have hI_n25 : (jU (jO (35, 0, 0, 0)) (jU (jO (34, 0, 0, 0)) (jU (jO (33, 0, 0, 0)) (jU (jO (32, 0, 0, 0)) (jU (jO (31, 0, 0, 0)) (jU (jO (30, 0, 0, 0)) I)))))) (35, 0, 0, 0) := Or.inl rfl
  have hq_n25 := e25
  have hA_n25 : iA a s.heap.size q25 := Or.inr hz25
  refine pF_722 (pc := 51) C hin hP hS hI_t hI_n25 (Or.inl rfl) hq_t hq_n25 dX9_init_51 (fun H locs hP hS => ?_)
  refine lv_aload_n (pc := 54) hx hb dX9_init_54 rfl (lv_at hl 0 rfl) ?_
  refine lv_bipush (pc := 55) (v := (60 : Int32)) hx hb dX9_init_55 (by decide) ?_
  have hf29 : ∀ i, (jU (jO (35, 0, 0, 0)) (jU (jO (34, 0, 0, 0)) (jU (jO (33, 0, 0, 0)) (jU (jO (32, 0, 0, 0)) (jU (jO (31, 0, 0, 0)) (jU (jO (30, 0, 0, 0)) I)))))) i → ¬ (jO (36, 0, 0, 0)) i := by
    intro i hi hJ
    have hJ2 : (jK 29 18) i := ⟨36, by decide, by decide, hJ⟩
    rcases hi with hi | hi | hi | hi | hi | hi | hi
    · have h1 := jO_r hi; have h2 := jO_r hJ; (try dsimp only at h1); (try dsimp only at h2); omega
    · have h1 := jO_r hi; have h2 := jO_r hJ; (try dsimp only at h1); (try dsimp only at h2); omega
    · have h1 := jO_r hi; have h2 := jO_r hJ; (try dsimp only at h1); (try dsimp only at h2); omega
    · have h1 := jO_r hi; have h2 := jO_r hJ; (try dsimp only at h1); (try dsimp only at h2); omega
    · have h1 := jO_r hi; have h2 := jO_r hJ; (try dsimp only at h1); (try dsimp only at h2); omega
    · have h1 := jO_r hi; have h2 := jO_r hJ; (try dsimp only at h1); (try dsimp only at h2); omega
    · have he := hfr i hi hJ2
      subst he
      simp [jO] at hJ
  refine r2_newI (pc := 57) (i := (36, 0, 0, 0)) (A := iA a s.heap.size) C hP hS (fun h => hf29 _ h rfl) (show (36 : Nat) ≠ 27 by decide) rfl mw_135 (by decide) (by decide) (Nat.le_of_ble_eq_true rfl) (Nat.le_of_ble_eq_true rfl) (Nat.le_of_ble_eq_true rfl) dX9_init_57 (fun q29 ad29 H e29 hx29 hz29 hP hS => ?_)
  replace hP := hP.toJ rfl rfl
  replace hq_t := (hx29 _ hI_t).trans hq_t
  replace hI_t : (jU (jO (36, 0, 0, 0)) (jU (jO (35, 0, 0, 0)) (jU (jO (34, 0, 0, 0)) (jU (jO (33, 0, 0, 0)) (jU (jO (32, 0, 0, 0)) (jU (jO (31, 0, 0, 0)) (jU (jO (30, 0, 0, 0)) I))))))) (29, 0, 0, 0) := Or.inr hI_t
  replace hq_n5 := (hx29 _ hI_n5).trans hq_n5
  replace hI_n5 : (jU (jO (36, 0, 0, 0)) (jU (jO (35, 0, 0, 0)) (jU (jO (34, 0, 0, 0)) (jU (jO (33, 0, 0, 0)) (jU (jO (32, 0, 0, 0)) (jU (jO (31, 0, 0, 0)) (jU (jO (30, 0, 0, 0)) I))))))) (30, 0, 0, 0) := Or.inr hI_n5
  replace hq_n9 := (hx29 _ hI_n9).trans hq_n9
  replace hI_n9 : (jU (jO (36, 0, 0, 0)) (jU (jO (35, 0, 0, 0)) (jU (jO (34, 0, 0, 0)) (jU (jO (33, 0, 0, 0)) (jU (jO (32, 0, 0, 0)) (jU (jO (31, 0, 0, 0)) (jU (jO (30, 0, 0, 0)) I))))))) (31, 0, 0, 0) := Or.inr hI_n9
  replace hq_n13 := (hx29 _ hI_n13).trans hq_n13
  replace hI_n13 : (jU (jO (36, 0, 0, 0)) (jU (jO (35, 0, 0, 0)) (jU (jO (34, 0, 0, 0)) (jU (jO (33, 0, 0, 0)) (jU (jO (32, 0, 0, 0)) (jU (jO (31, 0, 0, 0)) (jU (jO (30, 0, 0, 0)) I))))))) (32, 0, 0, 0) := Or.inr hI_n13
  replace hq_n17 := (hx29 _ hI_n17).trans hq_n17
  replace hI_n17 : (jU (jO (36, 0, 0, 0)) (jU (jO (35, 0, 0, 0)) (jU (jO (34, 0, 0, 0)) (jU (jO (33, 0, 0, 0)) (jU (jO (32, 0, 0, 0)) (jU (jO (31, 0, 0, 0)) (jU (jO (30, 0, 0, 0)) I))))))) (33, 0, 0, 0) := Or.inr hI_n17
  replace hq_n21 := (hx29 _ hI_n21).trans hq_n21
  replace hI_n21 : (jU (jO (36, 0, 0, 0)) (jU (jO (35, 0, 0, 0)) (jU (jO (34, 0, 0, 0)) (jU (jO (33, 0, 0, 0)) (jU (jO (32, 0, 0, 0)) (jU (jO (31, 0, 0, 0)) (jU (jO (30, 0, 0, 0)) I))))))) (34, 0, 0, 0) := Or.inr hI_n21
  replace hq_n25 := (hx29 _ hI_n25).trans hq_n25
  replace hI_n25 : (jU (jO (36, 0, 0, 0)) (jU (jO (35, 0, 0, 0)) (jU (jO (34, 0, 0, 0)) (jU (jO (33, 0, 0, 0)) (jU (jO (32, 0, 0, 0)) (jU (jO (31, 0, 0, 0)) (jU (jO (30, 0, 0, 0)) I))))))) (35, 0, 0, 0) := Or.inr hI_n25
  replace hxt : ∀ j, I j → ad29 j = ad j := fun j hj => (hx29 j (hup j hj)).trans (hxt j hj)
  replace hup : ∀ j, I j → (jU (jO (36, 0, 0, 0)) (jU (jO (35, 0, 0, 0)) (jU (jO (34, 0, 0, 0)) (jU (jO (33, 0, 0, 0)) (jU (jO (32, 0, 0, 0)) (jU (jO (31, 0, 0, 0)) (jU (jO (30, 0, 0, 0)) I))))))) j := fun j hj => Or.inr (hup j hj)
  replace hnw : ∀ j, (jU (jO (36, 0, 0, 0)) (jU (jO (35, 0, 0, 0)) (jU (jO (34, 0, 0, 0)) (jU (jO (33, 0, 0, 0)) (jU (jO (32, 0, 0, 0)) (jU (jO (31, 0, 0, 0)) (jU (jO (30, 0, 0, 0)) I))))))) j → ¬ I j → s.heap.size ≤ ad29 j := fun j hj hn => hj.elim (fun h => by have h : j = (36, 0, 0, 0) := h; rw [h, e29]; exact hz29) (fun h => by rw [hx29 j h]; exact hnw j h hn)
  have hI_n29 : (jU (jO (36, 0, 0, 0)) (jU (jO (35, 0, 0, 0)) (jU (jO (34, 0, 0, 0)) (jU (jO (33, 0, 0, 0)) (jU (jO (32, 0, 0, 0)) (jU (jO (31, 0, 0, 0)) (jU (jO (30, 0, 0, 0)) I))))))) (36, 0, 0, 0) := Or.inl rfl
  have hq_n29 := e29
  have hA_n29 : iA a s.heap.size q29 := Or.inr hz29
  refine pF_723 (pc := 59) C hin hP hS hI_t hI_n29 (Or.inl rfl) hq_t hq_n29 dX9_init_59 (fun H locs hP hS => ?_)
  refine lv_aload_n (pc := 62) hx hb dX9_init_62 rfl (lv_at hl 0 rfl) ?_
  refine lv_bipush (pc := 63) (v := (60 : Int32)) hx hb dX9_init_63 (by decide) ?_
  have hf33 : ∀ i, (jU (jO (36, 0, 0, 0)) (jU (jO (35, 0, 0, 0)) (jU (jO (34, 0, 0, 0)) (jU (jO (33, 0, 0, 0)) (jU (jO (32, 0, 0, 0)) (jU (jO (31, 0, 0, 0)) (jU (jO (30, 0, 0, 0)) I))))))) i → ¬ (jO (37, 0, 0, 0)) i := by
    intro i hi hJ
    have hJ2 : (jK 29 18) i := ⟨37, by decide, by decide, hJ⟩
    rcases hi with hi | hi | hi | hi | hi | hi | hi | hi
    · have h1 := jO_r hi; have h2 := jO_r hJ; (try dsimp only at h1); (try dsimp only at h2); omega
    · have h1 := jO_r hi; have h2 := jO_r hJ; (try dsimp only at h1); (try dsimp only at h2); omega
    · have h1 := jO_r hi; have h2 := jO_r hJ; (try dsimp only at h1); (try dsimp only at h2); omega
    · have h1 := jO_r hi; have h2 := jO_r hJ; (try dsimp only at h1); (try dsimp only at h2); omega
    · have h1 := jO_r hi; have h2 := jO_r hJ; (try dsimp only at h1); (try dsimp only at h2); omega
    · have h1 := jO_r hi; have h2 := jO_r hJ; (try dsimp only at h1); (try dsimp only at h2); omega
    · have h1 := jO_r hi; have h2 := jO_r hJ; (try dsimp only at h1); (try dsimp only at h2); omega
    · have he := hfr i hi hJ2
      subst he
      simp [jO] at hJ
  refine r2_newI (pc := 65) (i := (37, 0, 0, 0)) (A := iA a s.heap.size) C hP hS (fun h => hf33 _ h rfl) (show (37 : Nat) ≠ 27 by decide) rfl mw_135 (by decide) (by decide) (Nat.le_of_ble_eq_true rfl) (Nat.le_of_ble_eq_true rfl) (Nat.le_of_ble_eq_true rfl) dX9_init_65 (fun q33 ad33 H e33 hx33 hz33 hP hS => ?_)
  replace hP := hP.toJ rfl rfl
  replace hq_t := (hx33 _ hI_t).trans hq_t
  replace hI_t : (jU (jO (37, 0, 0, 0)) (jU (jO (36, 0, 0, 0)) (jU (jO (35, 0, 0, 0)) (jU (jO (34, 0, 0, 0)) (jU (jO (33, 0, 0, 0)) (jU (jO (32, 0, 0, 0)) (jU (jO (31, 0, 0, 0)) (jU (jO (30, 0, 0, 0)) I)))))))) (29, 0, 0, 0) := Or.inr hI_t
  replace hq_n5 := (hx33 _ hI_n5).trans hq_n5
  replace hI_n5 : (jU (jO (37, 0, 0, 0)) (jU (jO (36, 0, 0, 0)) (jU (jO (35, 0, 0, 0)) (jU (jO (34, 0, 0, 0)) (jU (jO (33, 0, 0, 0)) (jU (jO (32, 0, 0, 0)) (jU (jO (31, 0, 0, 0)) (jU (jO (30, 0, 0, 0)) I)))))))) (30, 0, 0, 0) := Or.inr hI_n5
  replace hq_n9 := (hx33 _ hI_n9).trans hq_n9
  replace hI_n9 : (jU (jO (37, 0, 0, 0)) (jU (jO (36, 0, 0, 0)) (jU (jO (35, 0, 0, 0)) (jU (jO (34, 0, 0, 0)) (jU (jO (33, 0, 0, 0)) (jU (jO (32, 0, 0, 0)) (jU (jO (31, 0, 0, 0)) (jU (jO (30, 0, 0, 0)) I)))))))) (31, 0, 0, 0) := Or.inr hI_n9
  replace hq_n13 := (hx33 _ hI_n13).trans hq_n13
  replace hI_n13 : (jU (jO (37, 0, 0, 0)) (jU (jO (36, 0, 0, 0)) (jU (jO (35, 0, 0, 0)) (jU (jO (34, 0, 0, 0)) (jU (jO (33, 0, 0, 0)) (jU (jO (32, 0, 0, 0)) (jU (jO (31, 0, 0, 0)) (jU (jO (30, 0, 0, 0)) I)))))))) (32, 0, 0, 0) := Or.inr hI_n13
  replace hq_n17 := (hx33 _ hI_n17).trans hq_n17
  replace hI_n17 : (jU (jO (37, 0, 0, 0)) (jU (jO (36, 0, 0, 0)) (jU (jO (35, 0, 0, 0)) (jU (jO (34, 0, 0, 0)) (jU (jO (33, 0, 0, 0)) (jU (jO (32, 0, 0, 0)) (jU (jO (31, 0, 0, 0)) (jU (jO (30, 0, 0, 0)) I)))))))) (33, 0, 0, 0) := Or.inr hI_n17
  replace hq_n21 := (hx33 _ hI_n21).trans hq_n21
  replace hI_n21 : (jU (jO (37, 0, 0, 0)) (jU (jO (36, 0, 0, 0)) (jU (jO (35, 0, 0, 0)) (jU (jO (34, 0, 0, 0)) (jU (jO (33, 0, 0, 0)) (jU (jO (32, 0, 0, 0)) (jU (jO (31, 0, 0, 0)) (jU (jO (30, 0, 0, 0)) I)))))))) (34, 0, 0, 0) := Or.inr hI_n21
  replace hq_n25 := (hx33 _ hI_n25).trans hq_n25
  replace hI_n25 : (jU (jO (37, 0, 0, 0)) (jU (jO (36, 0, 0, 0)) (jU (jO (35, 0, 0, 0)) (jU (jO (34, 0, 0, 0)) (jU (jO (33, 0, 0, 0)) (jU (jO (32, 0, 0, 0)) (jU (jO (31, 0, 0, 0)) (jU (jO (30, 0, 0, 0)) I)))))))) (35, 0, 0, 0) := Or.inr hI_n25
  replace hq_n29 := (hx33 _ hI_n29).trans hq_n29
  replace hI_n29 : (jU (jO (37, 0, 0, 0)) (jU (jO (36, 0, 0, 0)) (jU (jO (35, 0, 0, 0)) (jU (jO (34, 0, 0, 0)) (jU (jO (33, 0, 0, 0)) (jU (jO (32, 0, 0, 0)) (jU (jO (31, 0, 0, 0)) (jU (jO (30, 0, 0, 0)) I)))))))) (36, 0, 0, 0) := Or.inr hI_n29
  replace hxt : ∀ j, I j → ad33 j = ad j := fun j hj => (hx33 j (hup j hj)).trans (hxt j hj)
  replace hup : ∀ j, I j → (jU (jO (37, 0, 0, 0)) (jU (jO (36, 0, 0, 0)) (jU (jO (35, 0, 0, 0)) (jU (jO (34, 0, 0, 0)) (jU (jO (33, 0, 0, 0)) (jU (jO (32, 0, 0, 0)) (jU (jO (31, 0, 0, 0)) (jU (jO (30, 0, 0, 0)) I)))))))) j := fun j hj => Or.inr (hup j hj)
  replace hnw : ∀ j, (jU (jO (37, 0, 0, 0)) (jU (jO (36, 0, 0, 0)) (jU (jO (35, 0, 0, 0)) (jU (jO (34, 0, 0, 0)) (jU (jO (33, 0, 0, 0)) (jU (jO (32, 0, 0, 0)) (jU (jO (31, 0, 0, 0)) (jU (jO (30, 0, 0, 0)) I)))))))) j → ¬ I j → s.heap.size ≤ ad33 j := fun j hj hn => hj.elim (fun h => by have h : j = (37, 0, 0, 0) := h; rw [h, e33]; exact hz33) (fun h => by rw [hx33 j h]; exact hnw j h hn)
  have hI_n33 : (jU (jO (37, 0, 0, 0)) (jU (jO (36, 0, 0, 0)) (jU (jO (35, 0, 0, 0)) (jU (jO (34, 0, 0, 0)) (jU (jO (33, 0, 0, 0)) (jU (jO (32, 0, 0, 0)) (jU (jO (31, 0, 0, 0)) (jU (jO (30, 0, 0, 0)) I)))))))) (37, 0, 0, 0) := Or.inl rfl
  have hq_n33 := e33
  have hA_n33 : iA a s.heap.size q33 := Or.inr hz33
  refine pF_724 (pc := 67) C hin hP hS hI_t hI_n33 (Or.inl rfl) hq_t hq_n33 dX9_init_67 (fun H locs hP hS => ?_)
  refine lv_aload_n (pc := 70) hx hb dX9_init_70 rfl (lv_at hl 0 rfl) ?_
  refine lv_bipush (pc := 71) (v := (60 : Int32)) hx hb dX9_init_71 (by decide) ?_
  have hf37 : ∀ i, (jU (jO (37, 0, 0, 0)) (jU (jO (36, 0, 0, 0)) (jU (jO (35, 0, 0, 0)) (jU (jO (34, 0, 0, 0)) (jU (jO (33, 0, 0, 0)) (jU (jO (32, 0, 0, 0)) (jU (jO (31, 0, 0, 0)) (jU (jO (30, 0, 0, 0)) I)))))))) i → ¬ (jO (38, 0, 0, 0)) i := by
    intro i hi hJ
    have hJ2 : (jK 29 18) i := ⟨38, by decide, by decide, hJ⟩
    rcases hi with hi | hi | hi | hi | hi | hi | hi | hi | hi
    · have h1 := jO_r hi; have h2 := jO_r hJ; (try dsimp only at h1); (try dsimp only at h2); omega
    · have h1 := jO_r hi; have h2 := jO_r hJ; (try dsimp only at h1); (try dsimp only at h2); omega
    · have h1 := jO_r hi; have h2 := jO_r hJ; (try dsimp only at h1); (try dsimp only at h2); omega
    · have h1 := jO_r hi; have h2 := jO_r hJ; (try dsimp only at h1); (try dsimp only at h2); omega
    · have h1 := jO_r hi; have h2 := jO_r hJ; (try dsimp only at h1); (try dsimp only at h2); omega
    · have h1 := jO_r hi; have h2 := jO_r hJ; (try dsimp only at h1); (try dsimp only at h2); omega
    · have h1 := jO_r hi; have h2 := jO_r hJ; (try dsimp only at h1); (try dsimp only at h2); omega
    · have h1 := jO_r hi; have h2 := jO_r hJ; (try dsimp only at h1); (try dsimp only at h2); omega
    · have he := hfr i hi hJ2
      subst he
      simp [jO] at hJ
  refine r2_newI (pc := 73) (i := (38, 0, 0, 0)) (A := iA a s.heap.size) C hP hS (fun h => hf37 _ h rfl) (show (38 : Nat) ≠ 27 by decide) rfl mw_135 (by decide) (by decide) (Nat.le_of_ble_eq_true rfl) (Nat.le_of_ble_eq_true rfl) (Nat.le_of_ble_eq_true rfl) dX9_init_73 (fun q37 ad37 H e37 hx37 hz37 hP hS => ?_)
  replace hP := hP.toJ rfl rfl
  replace hq_t := (hx37 _ hI_t).trans hq_t
  replace hI_t : (jU (jO (38, 0, 0, 0)) (jU (jO (37, 0, 0, 0)) (jU (jO (36, 0, 0, 0)) (jU (jO (35, 0, 0, 0)) (jU (jO (34, 0, 0, 0)) (jU (jO (33, 0, 0, 0)) (jU (jO (32, 0, 0, 0)) (jU (jO (31, 0, 0, 0)) (jU (jO (30, 0, 0, 0)) I))))))))) (29, 0, 0, 0) := Or.inr hI_t
  replace hq_n5 := (hx37 _ hI_n5).trans hq_n5
  replace hI_n5 : (jU (jO (38, 0, 0, 0)) (jU (jO (37, 0, 0, 0)) (jU (jO (36, 0, 0, 0)) (jU (jO (35, 0, 0, 0)) (jU (jO (34, 0, 0, 0)) (jU (jO (33, 0, 0, 0)) (jU (jO (32, 0, 0, 0)) (jU (jO (31, 0, 0, 0)) (jU (jO (30, 0, 0, 0)) I))))))))) (30, 0, 0, 0) := Or.inr hI_n5
  replace hq_n9 := (hx37 _ hI_n9).trans hq_n9
  replace hI_n9 : (jU (jO (38, 0, 0, 0)) (jU (jO (37, 0, 0, 0)) (jU (jO (36, 0, 0, 0)) (jU (jO (35, 0, 0, 0)) (jU (jO (34, 0, 0, 0)) (jU (jO (33, 0, 0, 0)) (jU (jO (32, 0, 0, 0)) (jU (jO (31, 0, 0, 0)) (jU (jO (30, 0, 0, 0)) I))))))))) (31, 0, 0, 0) := Or.inr hI_n9
  replace hq_n13 := (hx37 _ hI_n13).trans hq_n13
  replace hI_n13 : (jU (jO (38, 0, 0, 0)) (jU (jO (37, 0, 0, 0)) (jU (jO (36, 0, 0, 0)) (jU (jO (35, 0, 0, 0)) (jU (jO (34, 0, 0, 0)) (jU (jO (33, 0, 0, 0)) (jU (jO (32, 0, 0, 0)) (jU (jO (31, 0, 0, 0)) (jU (jO (30, 0, 0, 0)) I))))))))) (32, 0, 0, 0) := Or.inr hI_n13
  replace hq_n17 := (hx37 _ hI_n17).trans hq_n17
  replace hI_n17 : (jU (jO (38, 0, 0, 0)) (jU (jO (37, 0, 0, 0)) (jU (jO (36, 0, 0, 0)) (jU (jO (35, 0, 0, 0)) (jU (jO (34, 0, 0, 0)) (jU (jO (33, 0, 0, 0)) (jU (jO (32, 0, 0, 0)) (jU (jO (31, 0, 0, 0)) (jU (jO (30, 0, 0, 0)) I))))))))) (33, 0, 0, 0) := Or.inr hI_n17
  replace hq_n21 := (hx37 _ hI_n21).trans hq_n21
  replace hI_n21 : (jU (jO (38, 0, 0, 0)) (jU (jO (37, 0, 0, 0)) (jU (jO (36, 0, 0, 0)) (jU (jO (35, 0, 0, 0)) (jU (jO (34, 0, 0, 0)) (jU (jO (33, 0, 0, 0)) (jU (jO (32, 0, 0, 0)) (jU (jO (31, 0, 0, 0)) (jU (jO (30, 0, 0, 0)) I))))))))) (34, 0, 0, 0) := Or.inr hI_n21
  replace hq_n25 := (hx37 _ hI_n25).trans hq_n25
  replace hI_n25 : (jU (jO (38, 0, 0, 0)) (jU (jO (37, 0, 0, 0)) (jU (jO (36, 0, 0, 0)) (jU (jO (35, 0, 0, 0)) (jU (jO (34, 0, 0, 0)) (jU (jO (33, 0, 0, 0)) (jU (jO (32, 0, 0, 0)) (jU (jO (31, 0, 0, 0)) (jU (jO (30, 0, 0, 0)) I))))))))) (35, 0, 0, 0) := Or.inr hI_n25
  replace hq_n29 := (hx37 _ hI_n29).trans hq_n29
  replace hI_n29 : (jU (jO (38, 0, 0, 0)) (jU (jO (37, 0, 0, 0)) (jU (jO (36, 0, 0, 0)) (jU (jO (35, 0, 0, 0)) (jU (jO (34, 0, 0, 0)) (jU (jO (33, 0, 0, 0)) (jU (jO (32, 0, 0, 0)) (jU (jO (31, 0, 0, 0)) (jU (jO (30, 0, 0, 0)) I))))))))) (36, 0, 0, 0) := Or.inr hI_n29
  replace hq_n33 := (hx37 _ hI_n33).trans hq_n33
  replace hI_n33 : (jU (jO (38, 0, 0, 0)) (jU (jO (37, 0, 0, 0)) (jU (jO (36, 0, 0, 0)) (jU (jO (35, 0, 0, 0)) (jU (jO (34, 0, 0, 0)) (jU (jO (33, 0, 0, 0)) (jU (jO (32, 0, 0, 0)) (jU (jO (31, 0, 0, 0)) (jU (jO (30, 0, 0, 0)) I))))))))) (37, 0, 0, 0) := Or.inr hI_n33
  replace hxt : ∀ j, I j → ad37 j = ad j := fun j hj => (hx37 j (hup j hj)).trans (hxt j hj)
  replace hup : ∀ j, I j → (jU (jO (38, 0, 0, 0)) (jU (jO (37, 0, 0, 0)) (jU (jO (36, 0, 0, 0)) (jU (jO (35, 0, 0, 0)) (jU (jO (34, 0, 0, 0)) (jU (jO (33, 0, 0, 0)) (jU (jO (32, 0, 0, 0)) (jU (jO (31, 0, 0, 0)) (jU (jO (30, 0, 0, 0)) I))))))))) j := fun j hj => Or.inr (hup j hj)
  replace hnw : ∀ j, (jU (jO (38, 0, 0, 0)) (jU (jO (37, 0, 0, 0)) (jU (jO (36, 0, 0, 0)) (jU (jO (35, 0, 0, 0)) (jU (jO (34, 0, 0, 0)) (jU (jO (33, 0, 0, 0)) (jU (jO (32, 0, 0, 0)) (jU (jO (31, 0, 0, 0)) (jU (jO (30, 0, 0, 0)) I))))))))) j → ¬ I j → s.heap.size ≤ ad37 j := fun j hj hn => hj.elim (fun h => by have h : j = (38, 0, 0, 0) := h; rw [h, e37]; exact hz37) (fun h => by rw [hx37 j h]; exact hnw j h hn)
  have hI_n37 : (jU (jO (38, 0, 0, 0)) (jU (jO (37, 0, 0, 0)) (jU (jO (36, 0, 0, 0)) (jU (jO (35, 0, 0, 0)) (jU (jO (34, 0, 0, 0)) (jU (jO (33, 0, 0, 0)) (jU (jO (32, 0, 0, 0)) (jU (jO (31, 0, 0, 0)) (jU (jO (30, 0, 0, 0)) I))))))))) (38, 0, 0, 0) := Or.inl rfl
  have hq_n37 := e37
  have hA_n37 : iA a s.heap.size q37 := Or.inr hz37
  refine pF_725 (pc := 75) C hin hP hS hI_t hI_n37 (Or.inl rfl) hq_t hq_n37 dX9_init_75 (fun H locs hP hS => ?_)
  refine lv_aload_n (pc := 78) hx hb dX9_init_78 rfl (lv_at hl 0 rfl) ?_
  refine lv_sipush (pc := 79) (v := (200 : Int32)) hx hb dX9_init_79 (by decide) ?_
  have hf41 : ∀ i, (jU (jO (38, 0, 0, 0)) (jU (jO (37, 0, 0, 0)) (jU (jO (36, 0, 0, 0)) (jU (jO (35, 0, 0, 0)) (jU (jO (34, 0, 0, 0)) (jU (jO (33, 0, 0, 0)) (jU (jO (32, 0, 0, 0)) (jU (jO (31, 0, 0, 0)) (jU (jO (30, 0, 0, 0)) I))))))))) i → ¬ (jO (39, 0, 0, 0)) i := by
    intro i hi hJ
    have hJ2 : (jK 29 18) i := ⟨39, by decide, by decide, hJ⟩
    rcases hi with hi | hi | hi | hi | hi | hi | hi | hi | hi | hi
    · have h1 := jO_r hi; have h2 := jO_r hJ; (try dsimp only at h1); (try dsimp only at h2); omega
    · have h1 := jO_r hi; have h2 := jO_r hJ; (try dsimp only at h1); (try dsimp only at h2); omega
    · have h1 := jO_r hi; have h2 := jO_r hJ; (try dsimp only at h1); (try dsimp only at h2); omega
    · have h1 := jO_r hi; have h2 := jO_r hJ; (try dsimp only at h1); (try dsimp only at h2); omega
    · have h1 := jO_r hi; have h2 := jO_r hJ; (try dsimp only at h1); (try dsimp only at h2); omega
    · have h1 := jO_r hi; have h2 := jO_r hJ; (try dsimp only at h1); (try dsimp only at h2); omega
    · have h1 := jO_r hi; have h2 := jO_r hJ; (try dsimp only at h1); (try dsimp only at h2); omega
    · have h1 := jO_r hi; have h2 := jO_r hJ; (try dsimp only at h1); (try dsimp only at h2); omega
    · have h1 := jO_r hi; have h2 := jO_r hJ; (try dsimp only at h1); (try dsimp only at h2); omega
    · have he := hfr i hi hJ2
      subst he
      simp [jO] at hJ
  refine r2_newI (pc := 82) (i := (39, 0, 0, 0)) (A := iA a s.heap.size) C hP hS (fun h => hf41 _ h rfl) (show (39 : Nat) ≠ 27 by decide) rfl mw_135 (by decide) (by decide) (Nat.le_of_ble_eq_true rfl) (Nat.le_of_ble_eq_true rfl) (Nat.le_of_ble_eq_true rfl) dX9_init_82 (fun q41 ad41 H e41 hx41 hz41 hP hS => ?_)
  replace hP := hP.toJ rfl rfl
  replace hq_t := (hx41 _ hI_t).trans hq_t
  replace hI_t : (jU (jO (39, 0, 0, 0)) (jU (jO (38, 0, 0, 0)) (jU (jO (37, 0, 0, 0)) (jU (jO (36, 0, 0, 0)) (jU (jO (35, 0, 0, 0)) (jU (jO (34, 0, 0, 0)) (jU (jO (33, 0, 0, 0)) (jU (jO (32, 0, 0, 0)) (jU (jO (31, 0, 0, 0)) (jU (jO (30, 0, 0, 0)) I)))))))))) (29, 0, 0, 0) := Or.inr hI_t
  replace hq_n5 := (hx41 _ hI_n5).trans hq_n5
  replace hI_n5 : (jU (jO (39, 0, 0, 0)) (jU (jO (38, 0, 0, 0)) (jU (jO (37, 0, 0, 0)) (jU (jO (36, 0, 0, 0)) (jU (jO (35, 0, 0, 0)) (jU (jO (34, 0, 0, 0)) (jU (jO (33, 0, 0, 0)) (jU (jO (32, 0, 0, 0)) (jU (jO (31, 0, 0, 0)) (jU (jO (30, 0, 0, 0)) I)))))))))) (30, 0, 0, 0) := Or.inr hI_n5
  replace hq_n9 := (hx41 _ hI_n9).trans hq_n9
  replace hI_n9 : (jU (jO (39, 0, 0, 0)) (jU (jO (38, 0, 0, 0)) (jU (jO (37, 0, 0, 0)) (jU (jO (36, 0, 0, 0)) (jU (jO (35, 0, 0, 0)) (jU (jO (34, 0, 0, 0)) (jU (jO (33, 0, 0, 0)) (jU (jO (32, 0, 0, 0)) (jU (jO (31, 0, 0, 0)) (jU (jO (30, 0, 0, 0)) I)))))))))) (31, 0, 0, 0) := Or.inr hI_n9
  replace hq_n13 := (hx41 _ hI_n13).trans hq_n13
  replace hI_n13 : (jU (jO (39, 0, 0, 0)) (jU (jO (38, 0, 0, 0)) (jU (jO (37, 0, 0, 0)) (jU (jO (36, 0, 0, 0)) (jU (jO (35, 0, 0, 0)) (jU (jO (34, 0, 0, 0)) (jU (jO (33, 0, 0, 0)) (jU (jO (32, 0, 0, 0)) (jU (jO (31, 0, 0, 0)) (jU (jO (30, 0, 0, 0)) I)))))))))) (32, 0, 0, 0) := Or.inr hI_n13
  replace hq_n17 := (hx41 _ hI_n17).trans hq_n17
  replace hI_n17 : (jU (jO (39, 0, 0, 0)) (jU (jO (38, 0, 0, 0)) (jU (jO (37, 0, 0, 0)) (jU (jO (36, 0, 0, 0)) (jU (jO (35, 0, 0, 0)) (jU (jO (34, 0, 0, 0)) (jU (jO (33, 0, 0, 0)) (jU (jO (32, 0, 0, 0)) (jU (jO (31, 0, 0, 0)) (jU (jO (30, 0, 0, 0)) I)))))))))) (33, 0, 0, 0) := Or.inr hI_n17
  replace hq_n21 := (hx41 _ hI_n21).trans hq_n21
  replace hI_n21 : (jU (jO (39, 0, 0, 0)) (jU (jO (38, 0, 0, 0)) (jU (jO (37, 0, 0, 0)) (jU (jO (36, 0, 0, 0)) (jU (jO (35, 0, 0, 0)) (jU (jO (34, 0, 0, 0)) (jU (jO (33, 0, 0, 0)) (jU (jO (32, 0, 0, 0)) (jU (jO (31, 0, 0, 0)) (jU (jO (30, 0, 0, 0)) I)))))))))) (34, 0, 0, 0) := Or.inr hI_n21
  replace hq_n25 := (hx41 _ hI_n25).trans hq_n25
  replace hI_n25 : (jU (jO (39, 0, 0, 0)) (jU (jO (38, 0, 0, 0)) (jU (jO (37, 0, 0, 0)) (jU (jO (36, 0, 0, 0)) (jU (jO (35, 0, 0, 0)) (jU (jO (34, 0, 0, 0)) (jU (jO (33, 0, 0, 0)) (jU (jO (32, 0, 0, 0)) (jU (jO (31, 0, 0, 0)) (jU (jO (30, 0, 0, 0)) I)))))))))) (35, 0, 0, 0) := Or.inr hI_n25
  replace hq_n29 := (hx41 _ hI_n29).trans hq_n29
  replace hI_n29 : (jU (jO (39, 0, 0, 0)) (jU (jO (38, 0, 0, 0)) (jU (jO (37, 0, 0, 0)) (jU (jO (36, 0, 0, 0)) (jU (jO (35, 0, 0, 0)) (jU (jO (34, 0, 0, 0)) (jU (jO (33, 0, 0, 0)) (jU (jO (32, 0, 0, 0)) (jU (jO (31, 0, 0, 0)) (jU (jO (30, 0, 0, 0)) I)))))))))) (36, 0, 0, 0) := Or.inr hI_n29
  replace hq_n33 := (hx41 _ hI_n33).trans hq_n33
  replace hI_n33 : (jU (jO (39, 0, 0, 0)) (jU (jO (38, 0, 0, 0)) (jU (jO (37, 0, 0, 0)) (jU (jO (36, 0, 0, 0)) (jU (jO (35, 0, 0, 0)) (jU (jO (34, 0, 0, 0)) (jU (jO (33, 0, 0, 0)) (jU (jO (32, 0, 0, 0)) (jU (jO (31, 0, 0, 0)) (jU (jO (30, 0, 0, 0)) I)))))))))) (37, 0, 0, 0) := Or.inr hI_n33
  replace hq_n37 := (hx41 _ hI_n37).trans hq_n37
  replace hI_n37 : (jU (jO (39, 0, 0, 0)) (jU (jO (38, 0, 0, 0)) (jU (jO (37, 0, 0, 0)) (jU (jO (36, 0, 0, 0)) (jU (jO (35, 0, 0, 0)) (jU (jO (34, 0, 0, 0)) (jU (jO (33, 0, 0, 0)) (jU (jO (32, 0, 0, 0)) (jU (jO (31, 0, 0, 0)) (jU (jO (30, 0, 0, 0)) I)))))))))) (38, 0, 0, 0) := Or.inr hI_n37
  replace hxt : ∀ j, I j → ad41 j = ad j := fun j hj => (hx41 j (hup j hj)).trans (hxt j hj)
  replace hup : ∀ j, I j → (jU (jO (39, 0, 0, 0)) (jU (jO (38, 0, 0, 0)) (jU (jO (37, 0, 0, 0)) (jU (jO (36, 0, 0, 0)) (jU (jO (35, 0, 0, 0)) (jU (jO (34, 0, 0, 0)) (jU (jO (33, 0, 0, 0)) (jU (jO (32, 0, 0, 0)) (jU (jO (31, 0, 0, 0)) (jU (jO (30, 0, 0, 0)) I)))))))))) j := fun j hj => Or.inr (hup j hj)
  replace hnw : ∀ j, (jU (jO (39, 0, 0, 0)) (jU (jO (38, 0, 0, 0)) (jU (jO (37, 0, 0, 0)) (jU (jO (36, 0, 0, 0)) (jU (jO (35, 0, 0, 0)) (jU (jO (34, 0, 0, 0)) (jU (jO (33, 0, 0, 0)) (jU (jO (32, 0, 0, 0)) (jU (jO (31, 0, 0, 0)) (jU (jO (30, 0, 0, 0)) I)))))))))) j → ¬ I j → s.heap.size ≤ ad41 j := fun j hj hn => hj.elim (fun h => by have h : j = (39, 0, 0, 0) := h; rw [h, e41]; exact hz41) (fun h => by rw [hx41 j h]; exact hnw j h hn)
  have hI_n41 : (jU (jO (39, 0, 0, 0)) (jU (jO (38, 0, 0, 0)) (jU (jO (37, 0, 0, 0)) (jU (jO (36, 0, 0, 0)) (jU (jO (35, 0, 0, 0)) (jU (jO (34, 0, 0, 0)) (jU (jO (33, 0, 0, 0)) (jU (jO (32, 0, 0, 0)) (jU (jO (31, 0, 0, 0)) (jU (jO (30, 0, 0, 0)) I)))))))))) (39, 0, 0, 0) := Or.inl rfl
  have hq_n41 := e41
  have hA_n41 : iA a s.heap.size q41 := Or.inr hz41
  refine pF_726 (pc := 84) C hin hP hS hI_t hI_n41 (Or.inl rfl) hq_t hq_n41 dX9_init_84 (fun H locs hP hS => ?_)
  refine lv_aload_n (pc := 87) hx hb dX9_init_87 rfl (lv_at hl 0 rfl) ?_
  refine lv_bipush (pc := 88) (v := (60 : Int32)) hx hb dX9_init_88 (by decide) ?_
  have hf45 : ∀ i, (jU (jO (39, 0, 0, 0)) (jU (jO (38, 0, 0, 0)) (jU (jO (37, 0, 0, 0)) (jU (jO (36, 0, 0, 0)) (jU (jO (35, 0, 0, 0)) (jU (jO (34, 0, 0, 0)) (jU (jO (33, 0, 0, 0)) (jU (jO (32, 0, 0, 0)) (jU (jO (31, 0, 0, 0)) (jU (jO (30, 0, 0, 0)) I)))))))))) i → ¬ (jO (40, 0, 0, 0)) i := by
    intro i hi hJ
    have hJ2 : (jK 29 18) i := ⟨40, by decide, by decide, hJ⟩
    rcases hi with hi | hi | hi | hi | hi | hi | hi | hi | hi | hi | hi
    · have h1 := jO_r hi; have h2 := jO_r hJ; (try dsimp only at h1); (try dsimp only at h2); omega
    · have h1 := jO_r hi; have h2 := jO_r hJ; (try dsimp only at h1); (try dsimp only at h2); omega
    · have h1 := jO_r hi; have h2 := jO_r hJ; (try dsimp only at h1); (try dsimp only at h2); omega
    · have h1 := jO_r hi; have h2 := jO_r hJ; (try dsimp only at h1); (try dsimp only at h2); omega
    · have h1 := jO_r hi; have h2 := jO_r hJ; (try dsimp only at h1); (try dsimp only at h2); omega
    · have h1 := jO_r hi; have h2 := jO_r hJ; (try dsimp only at h1); (try dsimp only at h2); omega
    · have h1 := jO_r hi; have h2 := jO_r hJ; (try dsimp only at h1); (try dsimp only at h2); omega
    · have h1 := jO_r hi; have h2 := jO_r hJ; (try dsimp only at h1); (try dsimp only at h2); omega
    · have h1 := jO_r hi; have h2 := jO_r hJ; (try dsimp only at h1); (try dsimp only at h2); omega
    · have h1 := jO_r hi; have h2 := jO_r hJ; (try dsimp only at h1); (try dsimp only at h2); omega
    · have he := hfr i hi hJ2
      subst he
      simp [jO] at hJ
  refine r2_newI (pc := 90) (i := (40, 0, 0, 0)) (A := iA a s.heap.size) C hP hS (fun h => hf45 _ h rfl) (show (40 : Nat) ≠ 27 by decide) rfl mw_135 (by decide) (by decide) (Nat.le_of_ble_eq_true rfl) (Nat.le_of_ble_eq_true rfl) (Nat.le_of_ble_eq_true rfl) dX9_init_90 (fun q45 ad45 H e45 hx45 hz45 hP hS => ?_)
  replace hP := hP.toJ rfl rfl
  replace hq_t := (hx45 _ hI_t).trans hq_t
  replace hI_t : (jU (jO (40, 0, 0, 0)) (jU (jO (39, 0, 0, 0)) (jU (jO (38, 0, 0, 0)) (jU (jO (37, 0, 0, 0)) (jU (jO (36, 0, 0, 0)) (jU (jO (35, 0, 0, 0)) (jU (jO (34, 0, 0, 0)) (jU (jO (33, 0, 0, 0)) (jU (jO (32, 0, 0, 0)) (jU (jO (31, 0, 0, 0)) (jU (jO (30, 0, 0, 0)) I))))))))))) (29, 0, 0, 0) := Or.inr hI_t
  replace hq_n5 := (hx45 _ hI_n5).trans hq_n5
  replace hI_n5 : (jU (jO (40, 0, 0, 0)) (jU (jO (39, 0, 0, 0)) (jU (jO (38, 0, 0, 0)) (jU (jO (37, 0, 0, 0)) (jU (jO (36, 0, 0, 0)) (jU (jO (35, 0, 0, 0)) (jU (jO (34, 0, 0, 0)) (jU (jO (33, 0, 0, 0)) (jU (jO (32, 0, 0, 0)) (jU (jO (31, 0, 0, 0)) (jU (jO (30, 0, 0, 0)) I))))))))))) (30, 0, 0, 0) := Or.inr hI_n5
  replace hq_n9 := (hx45 _ hI_n9).trans hq_n9
  replace hI_n9 : (jU (jO (40, 0, 0, 0)) (jU (jO (39, 0, 0, 0)) (jU (jO (38, 0, 0, 0)) (jU (jO (37, 0, 0, 0)) (jU (jO (36, 0, 0, 0)) (jU (jO (35, 0, 0, 0)) (jU (jO (34, 0, 0, 0)) (jU (jO (33, 0, 0, 0)) (jU (jO (32, 0, 0, 0)) (jU (jO (31, 0, 0, 0)) (jU (jO (30, 0, 0, 0)) I))))))))))) (31, 0, 0, 0) := Or.inr hI_n9
  replace hq_n13 := (hx45 _ hI_n13).trans hq_n13
  replace hI_n13 : (jU (jO (40, 0, 0, 0)) (jU (jO (39, 0, 0, 0)) (jU (jO (38, 0, 0, 0)) (jU (jO (37, 0, 0, 0)) (jU (jO (36, 0, 0, 0)) (jU (jO (35, 0, 0, 0)) (jU (jO (34, 0, 0, 0)) (jU (jO (33, 0, 0, 0)) (jU (jO (32, 0, 0, 0)) (jU (jO (31, 0, 0, 0)) (jU (jO (30, 0, 0, 0)) I))))))))))) (32, 0, 0, 0) := Or.inr hI_n13
  replace hq_n17 := (hx45 _ hI_n17).trans hq_n17
  replace hI_n17 : (jU (jO (40, 0, 0, 0)) (jU (jO (39, 0, 0, 0)) (jU (jO (38, 0, 0, 0)) (jU (jO (37, 0, 0, 0)) (jU (jO (36, 0, 0, 0)) (jU (jO (35, 0, 0, 0)) (jU (jO (34, 0, 0, 0)) (jU (jO (33, 0, 0, 0)) (jU (jO (32, 0, 0, 0)) (jU (jO (31, 0, 0, 0)) (jU (jO (30, 0, 0, 0)) I))))))))))) (33, 0, 0, 0) := Or.inr hI_n17
  replace hq_n21 := (hx45 _ hI_n21).trans hq_n21
  replace hI_n21 : (jU (jO (40, 0, 0, 0)) (jU (jO (39, 0, 0, 0)) (jU (jO (38, 0, 0, 0)) (jU (jO (37, 0, 0, 0)) (jU (jO (36, 0, 0, 0)) (jU (jO (35, 0, 0, 0)) (jU (jO (34, 0, 0, 0)) (jU (jO (33, 0, 0, 0)) (jU (jO (32, 0, 0, 0)) (jU (jO (31, 0, 0, 0)) (jU (jO (30, 0, 0, 0)) I))))))))))) (34, 0, 0, 0) := Or.inr hI_n21
  replace hq_n25 := (hx45 _ hI_n25).trans hq_n25
  replace hI_n25 : (jU (jO (40, 0, 0, 0)) (jU (jO (39, 0, 0, 0)) (jU (jO (38, 0, 0, 0)) (jU (jO (37, 0, 0, 0)) (jU (jO (36, 0, 0, 0)) (jU (jO (35, 0, 0, 0)) (jU (jO (34, 0, 0, 0)) (jU (jO (33, 0, 0, 0)) (jU (jO (32, 0, 0, 0)) (jU (jO (31, 0, 0, 0)) (jU (jO (30, 0, 0, 0)) I))))))))))) (35, 0, 0, 0) := Or.inr hI_n25
  replace hq_n29 := (hx45 _ hI_n29).trans hq_n29
  replace hI_n29 : (jU (jO (40, 0, 0, 0)) (jU (jO (39, 0, 0, 0)) (jU (jO (38, 0, 0, 0)) (jU (jO (37, 0, 0, 0)) (jU (jO (36, 0, 0, 0)) (jU (jO (35, 0, 0, 0)) (jU (jO (34, 0, 0, 0)) (jU (jO (33, 0, 0, 0)) (jU (jO (32, 0, 0, 0)) (jU (jO (31, 0, 0, 0)) (jU (jO (30, 0, 0, 0)) I))))))))))) (36, 0, 0, 0) := Or.inr hI_n29
  replace hq_n33 := (hx45 _ hI_n33).trans hq_n33
  replace hI_n33 : (jU (jO (40, 0, 0, 0)) (jU (jO (39, 0, 0, 0)) (jU (jO (38, 0, 0, 0)) (jU (jO (37, 0, 0, 0)) (jU (jO (36, 0, 0, 0)) (jU (jO (35, 0, 0, 0)) (jU (jO (34, 0, 0, 0)) (jU (jO (33, 0, 0, 0)) (jU (jO (32, 0, 0, 0)) (jU (jO (31, 0, 0, 0)) (jU (jO (30, 0, 0, 0)) I))))))))))) (37, 0, 0, 0) := Or.inr hI_n33
  replace hq_n37 := (hx45 _ hI_n37).trans hq_n37
  replace hI_n37 : (jU (jO (40, 0, 0, 0)) (jU (jO (39, 0, 0, 0)) (jU (jO (38, 0, 0, 0)) (jU (jO (37, 0, 0, 0)) (jU (jO (36, 0, 0, 0)) (jU (jO (35, 0, 0, 0)) (jU (jO (34, 0, 0, 0)) (jU (jO (33, 0, 0, 0)) (jU (jO (32, 0, 0, 0)) (jU (jO (31, 0, 0, 0)) (jU (jO (30, 0, 0, 0)) I))))))))))) (38, 0, 0, 0) := Or.inr hI_n37
  replace hq_n41 := (hx45 _ hI_n41).trans hq_n41
  replace hI_n41 : (jU (jO (40, 0, 0, 0)) (jU (jO (39, 0, 0, 0)) (jU (jO (38, 0, 0, 0)) (jU (jO (37, 0, 0, 0)) (jU (jO (36, 0, 0, 0)) (jU (jO (35, 0, 0, 0)) (jU (jO (34, 0, 0, 0)) (jU (jO (33, 0, 0, 0)) (jU (jO (32, 0, 0, 0)) (jU (jO (31, 0, 0, 0)) (jU (jO (30, 0, 0, 0)) I))))))))))) (39, 0, 0, 0) := Or.inr hI_n41
  replace hxt : ∀ j, I j → ad45 j = ad j := fun j hj => (hx45 j (hup j hj)).trans (hxt j hj)
  replace hup : ∀ j, I j → (jU (jO (40, 0, 0, 0)) (jU (jO (39, 0, 0, 0)) (jU (jO (38, 0, 0, 0)) (jU (jO (37, 0, 0, 0)) (jU (jO (36, 0, 0, 0)) (jU (jO (35, 0, 0, 0)) (jU (jO (34, 0, 0, 0)) (jU (jO (33, 0, 0, 0)) (jU (jO (32, 0, 0, 0)) (jU (jO (31, 0, 0, 0)) (jU (jO (30, 0, 0, 0)) I))))))))))) j := fun j hj => Or.inr (hup j hj)
  replace hnw : ∀ j, (jU (jO (40, 0, 0, 0)) (jU (jO (39, 0, 0, 0)) (jU (jO (38, 0, 0, 0)) (jU (jO (37, 0, 0, 0)) (jU (jO (36, 0, 0, 0)) (jU (jO (35, 0, 0, 0)) (jU (jO (34, 0, 0, 0)) (jU (jO (33, 0, 0, 0)) (jU (jO (32, 0, 0, 0)) (jU (jO (31, 0, 0, 0)) (jU (jO (30, 0, 0, 0)) I))))))))))) j → ¬ I j → s.heap.size ≤ ad45 j := fun j hj hn => hj.elim (fun h => by have h : j = (40, 0, 0, 0) := h; rw [h, e45]; exact hz45) (fun h => by rw [hx45 j h]; exact hnw j h hn)
  have hI_n45 : (jU (jO (40, 0, 0, 0)) (jU (jO (39, 0, 0, 0)) (jU (jO (38, 0, 0, 0)) (jU (jO (37, 0, 0, 0)) (jU (jO (36, 0, 0, 0)) (jU (jO (35, 0, 0, 0)) (jU (jO (34, 0, 0, 0)) (jU (jO (33, 0, 0, 0)) (jU (jO (32, 0, 0, 0)) (jU (jO (31, 0, 0, 0)) (jU (jO (30, 0, 0, 0)) I))))))))))) (40, 0, 0, 0) := Or.inl rfl
  have hq_n45 := e45
  have hA_n45 : iA a s.heap.size q45 := Or.inr hz45
  refine pF_727 (pc := 92) C hin hP hS hI_t hI_n45 (Or.inl rfl) hq_t hq_n45 dX9_init_92 (fun H locs hP hS => ?_)
  refine lv_aload_n (pc := 95) hx hb dX9_init_95 rfl (lv_at hl 0 rfl) ?_
  refine lv_iconst (pc := 96) (v := (4 : Int32)) hx hb dX9_init_96 (by decide) ?_
  have hf49 : ∀ i, (jU (jO (40, 0, 0, 0)) (jU (jO (39, 0, 0, 0)) (jU (jO (38, 0, 0, 0)) (jU (jO (37, 0, 0, 0)) (jU (jO (36, 0, 0, 0)) (jU (jO (35, 0, 0, 0)) (jU (jO (34, 0, 0, 0)) (jU (jO (33, 0, 0, 0)) (jU (jO (32, 0, 0, 0)) (jU (jO (31, 0, 0, 0)) (jU (jO (30, 0, 0, 0)) I))))))))))) i → ¬ (jO (41, 0, 0, 0)) i := by
    intro i hi hJ
    have hJ2 : (jK 29 18) i := ⟨41, by decide, by decide, hJ⟩
    rcases hi with hi | hi | hi | hi | hi | hi | hi | hi | hi | hi | hi | hi
    · have h1 := jO_r hi; have h2 := jO_r hJ; (try dsimp only at h1); (try dsimp only at h2); omega
    · have h1 := jO_r hi; have h2 := jO_r hJ; (try dsimp only at h1); (try dsimp only at h2); omega
    · have h1 := jO_r hi; have h2 := jO_r hJ; (try dsimp only at h1); (try dsimp only at h2); omega
    · have h1 := jO_r hi; have h2 := jO_r hJ; (try dsimp only at h1); (try dsimp only at h2); omega
    · have h1 := jO_r hi; have h2 := jO_r hJ; (try dsimp only at h1); (try dsimp only at h2); omega
    · have h1 := jO_r hi; have h2 := jO_r hJ; (try dsimp only at h1); (try dsimp only at h2); omega
    · have h1 := jO_r hi; have h2 := jO_r hJ; (try dsimp only at h1); (try dsimp only at h2); omega
    · have h1 := jO_r hi; have h2 := jO_r hJ; (try dsimp only at h1); (try dsimp only at h2); omega
    · have h1 := jO_r hi; have h2 := jO_r hJ; (try dsimp only at h1); (try dsimp only at h2); omega
    · have h1 := jO_r hi; have h2 := jO_r hJ; (try dsimp only at h1); (try dsimp only at h2); omega
    · have h1 := jO_r hi; have h2 := jO_r hJ; (try dsimp only at h1); (try dsimp only at h2); omega
    · have he := hfr i hi hJ2
      subst he
      simp [jO] at hJ
  refine r2_newI (pc := 97) (i := (41, 0, 0, 0)) (A := iA a s.heap.size) C hP hS (fun h => hf49 _ h rfl) (show (41 : Nat) ≠ 27 by decide) rfl mw_135 (by decide) (by decide) (Nat.le_of_ble_eq_true rfl) (Nat.le_of_ble_eq_true rfl) (Nat.le_of_ble_eq_true rfl) dX9_init_97 (fun q49 ad49 H e49 hx49 hz49 hP hS => ?_)
  replace hP := hP.toJ rfl rfl
  replace hq_t := (hx49 _ hI_t).trans hq_t
  replace hI_t : (jU (jO (41, 0, 0, 0)) (jU (jO (40, 0, 0, 0)) (jU (jO (39, 0, 0, 0)) (jU (jO (38, 0, 0, 0)) (jU (jO (37, 0, 0, 0)) (jU (jO (36, 0, 0, 0)) (jU (jO (35, 0, 0, 0)) (jU (jO (34, 0, 0, 0)) (jU (jO (33, 0, 0, 0)) (jU (jO (32, 0, 0, 0)) (jU (jO (31, 0, 0, 0)) (jU (jO (30, 0, 0, 0)) I)))))))))))) (29, 0, 0, 0) := Or.inr hI_t
  replace hq_n5 := (hx49 _ hI_n5).trans hq_n5
  replace hI_n5 : (jU (jO (41, 0, 0, 0)) (jU (jO (40, 0, 0, 0)) (jU (jO (39, 0, 0, 0)) (jU (jO (38, 0, 0, 0)) (jU (jO (37, 0, 0, 0)) (jU (jO (36, 0, 0, 0)) (jU (jO (35, 0, 0, 0)) (jU (jO (34, 0, 0, 0)) (jU (jO (33, 0, 0, 0)) (jU (jO (32, 0, 0, 0)) (jU (jO (31, 0, 0, 0)) (jU (jO (30, 0, 0, 0)) I)))))))))))) (30, 0, 0, 0) := Or.inr hI_n5
  replace hq_n9 := (hx49 _ hI_n9).trans hq_n9
  replace hI_n9 : (jU (jO (41, 0, 0, 0)) (jU (jO (40, 0, 0, 0)) (jU (jO (39, 0, 0, 0)) (jU (jO (38, 0, 0, 0)) (jU (jO (37, 0, 0, 0)) (jU (jO (36, 0, 0, 0)) (jU (jO (35, 0, 0, 0)) (jU (jO (34, 0, 0, 0)) (jU (jO (33, 0, 0, 0)) (jU (jO (32, 0, 0, 0)) (jU (jO (31, 0, 0, 0)) (jU (jO (30, 0, 0, 0)) I)))))))))))) (31, 0, 0, 0) := Or.inr hI_n9
  replace hq_n13 := (hx49 _ hI_n13).trans hq_n13
  replace hI_n13 : (jU (jO (41, 0, 0, 0)) (jU (jO (40, 0, 0, 0)) (jU (jO (39, 0, 0, 0)) (jU (jO (38, 0, 0, 0)) (jU (jO (37, 0, 0, 0)) (jU (jO (36, 0, 0, 0)) (jU (jO (35, 0, 0, 0)) (jU (jO (34, 0, 0, 0)) (jU (jO (33, 0, 0, 0)) (jU (jO (32, 0, 0, 0)) (jU (jO (31, 0, 0, 0)) (jU (jO (30, 0, 0, 0)) I)))))))))))) (32, 0, 0, 0) := Or.inr hI_n13
  replace hq_n17 := (hx49 _ hI_n17).trans hq_n17
  replace hI_n17 : (jU (jO (41, 0, 0, 0)) (jU (jO (40, 0, 0, 0)) (jU (jO (39, 0, 0, 0)) (jU (jO (38, 0, 0, 0)) (jU (jO (37, 0, 0, 0)) (jU (jO (36, 0, 0, 0)) (jU (jO (35, 0, 0, 0)) (jU (jO (34, 0, 0, 0)) (jU (jO (33, 0, 0, 0)) (jU (jO (32, 0, 0, 0)) (jU (jO (31, 0, 0, 0)) (jU (jO (30, 0, 0, 0)) I)))))))))))) (33, 0, 0, 0) := Or.inr hI_n17
  replace hq_n21 := (hx49 _ hI_n21).trans hq_n21
  replace hI_n21 : (jU (jO (41, 0, 0, 0)) (jU (jO (40, 0, 0, 0)) (jU (jO (39, 0, 0, 0)) (jU (jO (38, 0, 0, 0)) (jU (jO (37, 0, 0, 0)) (jU (jO (36, 0, 0, 0)) (jU (jO (35, 0, 0, 0)) (jU (jO (34, 0, 0, 0)) (jU (jO (33, 0, 0, 0)) (jU (jO (32, 0, 0, 0)) (jU (jO (31, 0, 0, 0)) (jU (jO (30, 0, 0, 0)) I)))))))))))) (34, 0, 0, 0) := Or.inr hI_n21
  replace hq_n25 := (hx49 _ hI_n25).trans hq_n25
  replace hI_n25 : (jU (jO (41, 0, 0, 0)) (jU (jO (40, 0, 0, 0)) (jU (jO (39, 0, 0, 0)) (jU (jO (38, 0, 0, 0)) (jU (jO (37, 0, 0, 0)) (jU (jO (36, 0, 0, 0)) (jU (jO (35, 0, 0, 0)) (jU (jO (34, 0, 0, 0)) (jU (jO (33, 0, 0, 0)) (jU (jO (32, 0, 0, 0)) (jU (jO (31, 0, 0, 0)) (jU (jO (30, 0, 0, 0)) I)))))))))))) (35, 0, 0, 0) := Or.inr hI_n25
  replace hq_n29 := (hx49 _ hI_n29).trans hq_n29
  replace hI_n29 : (jU (jO (41, 0, 0, 0)) (jU (jO (40, 0, 0, 0)) (jU (jO (39, 0, 0, 0)) (jU (jO (38, 0, 0, 0)) (jU (jO (37, 0, 0, 0)) (jU (jO (36, 0, 0, 0)) (jU (jO (35, 0, 0, 0)) (jU (jO (34, 0, 0, 0)) (jU (jO (33, 0, 0, 0)) (jU (jO (32, 0, 0, 0)) (jU (jO (31, 0, 0, 0)) (jU (jO (30, 0, 0, 0)) I)))))))))))) (36, 0, 0, 0) := Or.inr hI_n29
  replace hq_n33 := (hx49 _ hI_n33).trans hq_n33
  replace hI_n33 : (jU (jO (41, 0, 0, 0)) (jU (jO (40, 0, 0, 0)) (jU (jO (39, 0, 0, 0)) (jU (jO (38, 0, 0, 0)) (jU (jO (37, 0, 0, 0)) (jU (jO (36, 0, 0, 0)) (jU (jO (35, 0, 0, 0)) (jU (jO (34, 0, 0, 0)) (jU (jO (33, 0, 0, 0)) (jU (jO (32, 0, 0, 0)) (jU (jO (31, 0, 0, 0)) (jU (jO (30, 0, 0, 0)) I)))))))))))) (37, 0, 0, 0) := Or.inr hI_n33
  replace hq_n37 := (hx49 _ hI_n37).trans hq_n37
  replace hI_n37 : (jU (jO (41, 0, 0, 0)) (jU (jO (40, 0, 0, 0)) (jU (jO (39, 0, 0, 0)) (jU (jO (38, 0, 0, 0)) (jU (jO (37, 0, 0, 0)) (jU (jO (36, 0, 0, 0)) (jU (jO (35, 0, 0, 0)) (jU (jO (34, 0, 0, 0)) (jU (jO (33, 0, 0, 0)) (jU (jO (32, 0, 0, 0)) (jU (jO (31, 0, 0, 0)) (jU (jO (30, 0, 0, 0)) I)))))))))))) (38, 0, 0, 0) := Or.inr hI_n37
  replace hq_n41 := (hx49 _ hI_n41).trans hq_n41
  replace hI_n41 : (jU (jO (41, 0, 0, 0)) (jU (jO (40, 0, 0, 0)) (jU (jO (39, 0, 0, 0)) (jU (jO (38, 0, 0, 0)) (jU (jO (37, 0, 0, 0)) (jU (jO (36, 0, 0, 0)) (jU (jO (35, 0, 0, 0)) (jU (jO (34, 0, 0, 0)) (jU (jO (33, 0, 0, 0)) (jU (jO (32, 0, 0, 0)) (jU (jO (31, 0, 0, 0)) (jU (jO (30, 0, 0, 0)) I)))))))))))) (39, 0, 0, 0) := Or.inr hI_n41
  replace hq_n45 := (hx49 _ hI_n45).trans hq_n45
  replace hI_n45 : (jU (jO (41, 0, 0, 0)) (jU (jO (40, 0, 0, 0)) (jU (jO (39, 0, 0, 0)) (jU (jO (38, 0, 0, 0)) (jU (jO (37, 0, 0, 0)) (jU (jO (36, 0, 0, 0)) (jU (jO (35, 0, 0, 0)) (jU (jO (34, 0, 0, 0)) (jU (jO (33, 0, 0, 0)) (jU (jO (32, 0, 0, 0)) (jU (jO (31, 0, 0, 0)) (jU (jO (30, 0, 0, 0)) I)))))))))))) (40, 0, 0, 0) := Or.inr hI_n45
  replace hxt : ∀ j, I j → ad49 j = ad j := fun j hj => (hx49 j (hup j hj)).trans (hxt j hj)
  replace hup : ∀ j, I j → (jU (jO (41, 0, 0, 0)) (jU (jO (40, 0, 0, 0)) (jU (jO (39, 0, 0, 0)) (jU (jO (38, 0, 0, 0)) (jU (jO (37, 0, 0, 0)) (jU (jO (36, 0, 0, 0)) (jU (jO (35, 0, 0, 0)) (jU (jO (34, 0, 0, 0)) (jU (jO (33, 0, 0, 0)) (jU (jO (32, 0, 0, 0)) (jU (jO (31, 0, 0, 0)) (jU (jO (30, 0, 0, 0)) I)))))))))))) j := fun j hj => Or.inr (hup j hj)
  replace hnw : ∀ j, (jU (jO (41, 0, 0, 0)) (jU (jO (40, 0, 0, 0)) (jU (jO (39, 0, 0, 0)) (jU (jO (38, 0, 0, 0)) (jU (jO (37, 0, 0, 0)) (jU (jO (36, 0, 0, 0)) (jU (jO (35, 0, 0, 0)) (jU (jO (34, 0, 0, 0)) (jU (jO (33, 0, 0, 0)) (jU (jO (32, 0, 0, 0)) (jU (jO (31, 0, 0, 0)) (jU (jO (30, 0, 0, 0)) I)))))))))))) j → ¬ I j → s.heap.size ≤ ad49 j := fun j hj hn => hj.elim (fun h => by have h : j = (41, 0, 0, 0) := h; rw [h, e49]; exact hz49) (fun h => by rw [hx49 j h]; exact hnw j h hn)
  have hI_n49 : (jU (jO (41, 0, 0, 0)) (jU (jO (40, 0, 0, 0)) (jU (jO (39, 0, 0, 0)) (jU (jO (38, 0, 0, 0)) (jU (jO (37, 0, 0, 0)) (jU (jO (36, 0, 0, 0)) (jU (jO (35, 0, 0, 0)) (jU (jO (34, 0, 0, 0)) (jU (jO (33, 0, 0, 0)) (jU (jO (32, 0, 0, 0)) (jU (jO (31, 0, 0, 0)) (jU (jO (30, 0, 0, 0)) I)))))))))))) (41, 0, 0, 0) := Or.inl rfl
  have hq_n49 := e49
  have hA_n49 : iA a s.heap.size q49 := Or.inr hz49
  refine pF_728 (pc := 99) C hin hP hS hI_t hI_n49 (Or.inl rfl) hq_t hq_n49 dX9_init_99 (fun H locs hP hS => ?_)
  refine lv_aload_n (pc := 102) hx hb dX9_init_102 rfl (lv_at hl 0 rfl) ?_
  refine lv_bipush (pc := 103) (v := (60 : Int32)) hx hb dX9_init_103 (by decide) ?_
  have hf53 : ∀ i, (jU (jO (41, 0, 0, 0)) (jU (jO (40, 0, 0, 0)) (jU (jO (39, 0, 0, 0)) (jU (jO (38, 0, 0, 0)) (jU (jO (37, 0, 0, 0)) (jU (jO (36, 0, 0, 0)) (jU (jO (35, 0, 0, 0)) (jU (jO (34, 0, 0, 0)) (jU (jO (33, 0, 0, 0)) (jU (jO (32, 0, 0, 0)) (jU (jO (31, 0, 0, 0)) (jU (jO (30, 0, 0, 0)) I)))))))))))) i → ¬ (jO (42, 0, 0, 0)) i := by
    intro i hi hJ
    have hJ2 : (jK 29 18) i := ⟨42, by decide, by decide, hJ⟩
    rcases hi with hi | hi | hi | hi | hi | hi | hi | hi | hi | hi | hi | hi | hi
    · have h1 := jO_r hi; have h2 := jO_r hJ; (try dsimp only at h1); (try dsimp only at h2); omega
    · have h1 := jO_r hi; have h2 := jO_r hJ; (try dsimp only at h1); (try dsimp only at h2); omega
    · have h1 := jO_r hi; have h2 := jO_r hJ; (try dsimp only at h1); (try dsimp only at h2); omega
    · have h1 := jO_r hi; have h2 := jO_r hJ; (try dsimp only at h1); (try dsimp only at h2); omega
    · have h1 := jO_r hi; have h2 := jO_r hJ; (try dsimp only at h1); (try dsimp only at h2); omega
    · have h1 := jO_r hi; have h2 := jO_r hJ; (try dsimp only at h1); (try dsimp only at h2); omega
    · have h1 := jO_r hi; have h2 := jO_r hJ; (try dsimp only at h1); (try dsimp only at h2); omega
    · have h1 := jO_r hi; have h2 := jO_r hJ; (try dsimp only at h1); (try dsimp only at h2); omega
    · have h1 := jO_r hi; have h2 := jO_r hJ; (try dsimp only at h1); (try dsimp only at h2); omega
    · have h1 := jO_r hi; have h2 := jO_r hJ; (try dsimp only at h1); (try dsimp only at h2); omega
    · have h1 := jO_r hi; have h2 := jO_r hJ; (try dsimp only at h1); (try dsimp only at h2); omega
    · have h1 := jO_r hi; have h2 := jO_r hJ; (try dsimp only at h1); (try dsimp only at h2); omega
    · have he := hfr i hi hJ2
      subst he
      simp [jO] at hJ
  refine r2_newI (pc := 105) (i := (42, 0, 0, 0)) (A := iA a s.heap.size) C hP hS (fun h => hf53 _ h rfl) (show (42 : Nat) ≠ 27 by decide) rfl mw_135 (by decide) (by decide) (Nat.le_of_ble_eq_true rfl) (Nat.le_of_ble_eq_true rfl) (Nat.le_of_ble_eq_true rfl) dX9_init_105 (fun q53 ad53 H e53 hx53 hz53 hP hS => ?_)
  replace hP := hP.toJ rfl rfl
  replace hq_t := (hx53 _ hI_t).trans hq_t
  replace hI_t : (jU (jO (42, 0, 0, 0)) (jU (jO (41, 0, 0, 0)) (jU (jO (40, 0, 0, 0)) (jU (jO (39, 0, 0, 0)) (jU (jO (38, 0, 0, 0)) (jU (jO (37, 0, 0, 0)) (jU (jO (36, 0, 0, 0)) (jU (jO (35, 0, 0, 0)) (jU (jO (34, 0, 0, 0)) (jU (jO (33, 0, 0, 0)) (jU (jO (32, 0, 0, 0)) (jU (jO (31, 0, 0, 0)) (jU (jO (30, 0, 0, 0)) I))))))))))))) (29, 0, 0, 0) := Or.inr hI_t
  replace hq_n5 := (hx53 _ hI_n5).trans hq_n5
  replace hI_n5 : (jU (jO (42, 0, 0, 0)) (jU (jO (41, 0, 0, 0)) (jU (jO (40, 0, 0, 0)) (jU (jO (39, 0, 0, 0)) (jU (jO (38, 0, 0, 0)) (jU (jO (37, 0, 0, 0)) (jU (jO (36, 0, 0, 0)) (jU (jO (35, 0, 0, 0)) (jU (jO (34, 0, 0, 0)) (jU (jO (33, 0, 0, 0)) (jU (jO (32, 0, 0, 0)) (jU (jO (31, 0, 0, 0)) (jU (jO (30, 0, 0, 0)) I))))))))))))) (30, 0, 0, 0) := Or.inr hI_n5
  replace hq_n9 := (hx53 _ hI_n9).trans hq_n9
  replace hI_n9 : (jU (jO (42, 0, 0, 0)) (jU (jO (41, 0, 0, 0)) (jU (jO (40, 0, 0, 0)) (jU (jO (39, 0, 0, 0)) (jU (jO (38, 0, 0, 0)) (jU (jO (37, 0, 0, 0)) (jU (jO (36, 0, 0, 0)) (jU (jO (35, 0, 0, 0)) (jU (jO (34, 0, 0, 0)) (jU (jO (33, 0, 0, 0)) (jU (jO (32, 0, 0, 0)) (jU (jO (31, 0, 0, 0)) (jU (jO (30, 0, 0, 0)) I))))))))))))) (31, 0, 0, 0) := Or.inr hI_n9
  replace hq_n13 := (hx53 _ hI_n13).trans hq_n13
  replace hI_n13 : (jU (jO (42, 0, 0, 0)) (jU (jO (41, 0, 0, 0)) (jU (jO (40, 0, 0, 0)) (jU (jO (39, 0, 0, 0)) (jU (jO (38, 0, 0, 0)) (jU (jO (37, 0, 0, 0)) (jU (jO (36, 0, 0, 0)) (jU (jO (35, 0, 0, 0)) (jU (jO (34, 0, 0, 0)) (jU (jO (33, 0, 0, 0)) (jU (jO (32, 0, 0, 0)) (jU (jO (31, 0, 0, 0)) (jU (jO (30, 0, 0, 0)) I))))))))))))) (32, 0, 0, 0) := Or.inr hI_n13
  replace hq_n17 := (hx53 _ hI_n17).trans hq_n17
  replace hI_n17 : (jU (jO (42, 0, 0, 0)) (jU (jO (41, 0, 0, 0)) (jU (jO (40, 0, 0, 0)) (jU (jO (39, 0, 0, 0)) (jU (jO (38, 0, 0, 0)) (jU (jO (37, 0, 0, 0)) (jU (jO (36, 0, 0, 0)) (jU (jO (35, 0, 0, 0)) (jU (jO (34, 0, 0, 0)) (jU (jO (33, 0, 0, 0)) (jU (jO (32, 0, 0, 0)) (jU (jO (31, 0, 0, 0)) (jU (jO (30, 0, 0, 0)) I))))))))))))) (33, 0, 0, 0) := Or.inr hI_n17
  replace hq_n21 := (hx53 _ hI_n21).trans hq_n21
  replace hI_n21 : (jU (jO (42, 0, 0, 0)) (jU (jO (41, 0, 0, 0)) (jU (jO (40, 0, 0, 0)) (jU (jO (39, 0, 0, 0)) (jU (jO (38, 0, 0, 0)) (jU (jO (37, 0, 0, 0)) (jU (jO (36, 0, 0, 0)) (jU (jO (35, 0, 0, 0)) (jU (jO (34, 0, 0, 0)) (jU (jO (33, 0, 0, 0)) (jU (jO (32, 0, 0, 0)) (jU (jO (31, 0, 0, 0)) (jU (jO (30, 0, 0, 0)) I))))))))))))) (34, 0, 0, 0) := Or.inr hI_n21
  replace hq_n25 := (hx53 _ hI_n25).trans hq_n25
  replace hI_n25 : (jU (jO (42, 0, 0, 0)) (jU (jO (41, 0, 0, 0)) (jU (jO (40, 0, 0, 0)) (jU (jO (39, 0, 0, 0)) (jU (jO (38, 0, 0, 0)) (jU (jO (37, 0, 0, 0)) (jU (jO (36, 0, 0, 0)) (jU (jO (35, 0, 0, 0)) (jU (jO (34, 0, 0, 0)) (jU (jO (33, 0, 0, 0)) (jU (jO (32, 0, 0, 0)) (jU (jO (31, 0, 0, 0)) (jU (jO (30, 0, 0, 0)) I))))))))))))) (35, 0, 0, 0) := Or.inr hI_n25
  replace hq_n29 := (hx53 _ hI_n29).trans hq_n29
  replace hI_n29 : (jU (jO (42, 0, 0, 0)) (jU (jO (41, 0, 0, 0)) (jU (jO (40, 0, 0, 0)) (jU (jO (39, 0, 0, 0)) (jU (jO (38, 0, 0, 0)) (jU (jO (37, 0, 0, 0)) (jU (jO (36, 0, 0, 0)) (jU (jO (35, 0, 0, 0)) (jU (jO (34, 0, 0, 0)) (jU (jO (33, 0, 0, 0)) (jU (jO (32, 0, 0, 0)) (jU (jO (31, 0, 0, 0)) (jU (jO (30, 0, 0, 0)) I))))))))))))) (36, 0, 0, 0) := Or.inr hI_n29
  replace hq_n33 := (hx53 _ hI_n33).trans hq_n33
  replace hI_n33 : (jU (jO (42, 0, 0, 0)) (jU (jO (41, 0, 0, 0)) (jU (jO (40, 0, 0, 0)) (jU (jO (39, 0, 0, 0)) (jU (jO (38, 0, 0, 0)) (jU (jO (37, 0, 0, 0)) (jU (jO (36, 0, 0, 0)) (jU (jO (35, 0, 0, 0)) (jU (jO (34, 0, 0, 0)) (jU (jO (33, 0, 0, 0)) (jU (jO (32, 0, 0, 0)) (jU (jO (31, 0, 0, 0)) (jU (jO (30, 0, 0, 0)) I))))))))))))) (37, 0, 0, 0) := Or.inr hI_n33
  replace hq_n37 := (hx53 _ hI_n37).trans hq_n37
  replace hI_n37 : (jU (jO (42, 0, 0, 0)) (jU (jO (41, 0, 0, 0)) (jU (jO (40, 0, 0, 0)) (jU (jO (39, 0, 0, 0)) (jU (jO (38, 0, 0, 0)) (jU (jO (37, 0, 0, 0)) (jU (jO (36, 0, 0, 0)) (jU (jO (35, 0, 0, 0)) (jU (jO (34, 0, 0, 0)) (jU (jO (33, 0, 0, 0)) (jU (jO (32, 0, 0, 0)) (jU (jO (31, 0, 0, 0)) (jU (jO (30, 0, 0, 0)) I))))))))))))) (38, 0, 0, 0) := Or.inr hI_n37
  replace hq_n41 := (hx53 _ hI_n41).trans hq_n41
  replace hI_n41 : (jU (jO (42, 0, 0, 0)) (jU (jO (41, 0, 0, 0)) (jU (jO (40, 0, 0, 0)) (jU (jO (39, 0, 0, 0)) (jU (jO (38, 0, 0, 0)) (jU (jO (37, 0, 0, 0)) (jU (jO (36, 0, 0, 0)) (jU (jO (35, 0, 0, 0)) (jU (jO (34, 0, 0, 0)) (jU (jO (33, 0, 0, 0)) (jU (jO (32, 0, 0, 0)) (jU (jO (31, 0, 0, 0)) (jU (jO (30, 0, 0, 0)) I))))))))))))) (39, 0, 0, 0) := Or.inr hI_n41
  replace hq_n45 := (hx53 _ hI_n45).trans hq_n45
  replace hI_n45 : (jU (jO (42, 0, 0, 0)) (jU (jO (41, 0, 0, 0)) (jU (jO (40, 0, 0, 0)) (jU (jO (39, 0, 0, 0)) (jU (jO (38, 0, 0, 0)) (jU (jO (37, 0, 0, 0)) (jU (jO (36, 0, 0, 0)) (jU (jO (35, 0, 0, 0)) (jU (jO (34, 0, 0, 0)) (jU (jO (33, 0, 0, 0)) (jU (jO (32, 0, 0, 0)) (jU (jO (31, 0, 0, 0)) (jU (jO (30, 0, 0, 0)) I))))))))))))) (40, 0, 0, 0) := Or.inr hI_n45
  replace hq_n49 := (hx53 _ hI_n49).trans hq_n49
  replace hI_n49 : (jU (jO (42, 0, 0, 0)) (jU (jO (41, 0, 0, 0)) (jU (jO (40, 0, 0, 0)) (jU (jO (39, 0, 0, 0)) (jU (jO (38, 0, 0, 0)) (jU (jO (37, 0, 0, 0)) (jU (jO (36, 0, 0, 0)) (jU (jO (35, 0, 0, 0)) (jU (jO (34, 0, 0, 0)) (jU (jO (33, 0, 0, 0)) (jU (jO (32, 0, 0, 0)) (jU (jO (31, 0, 0, 0)) (jU (jO (30, 0, 0, 0)) I))))))))))))) (41, 0, 0, 0) := Or.inr hI_n49
  replace hxt : ∀ j, I j → ad53 j = ad j := fun j hj => (hx53 j (hup j hj)).trans (hxt j hj)
  replace hup : ∀ j, I j → (jU (jO (42, 0, 0, 0)) (jU (jO (41, 0, 0, 0)) (jU (jO (40, 0, 0, 0)) (jU (jO (39, 0, 0, 0)) (jU (jO (38, 0, 0, 0)) (jU (jO (37, 0, 0, 0)) (jU (jO (36, 0, 0, 0)) (jU (jO (35, 0, 0, 0)) (jU (jO (34, 0, 0, 0)) (jU (jO (33, 0, 0, 0)) (jU (jO (32, 0, 0, 0)) (jU (jO (31, 0, 0, 0)) (jU (jO (30, 0, 0, 0)) I))))))))))))) j := fun j hj => Or.inr (hup j hj)
  replace hnw : ∀ j, (jU (jO (42, 0, 0, 0)) (jU (jO (41, 0, 0, 0)) (jU (jO (40, 0, 0, 0)) (jU (jO (39, 0, 0, 0)) (jU (jO (38, 0, 0, 0)) (jU (jO (37, 0, 0, 0)) (jU (jO (36, 0, 0, 0)) (jU (jO (35, 0, 0, 0)) (jU (jO (34, 0, 0, 0)) (jU (jO (33, 0, 0, 0)) (jU (jO (32, 0, 0, 0)) (jU (jO (31, 0, 0, 0)) (jU (jO (30, 0, 0, 0)) I))))))))))))) j → ¬ I j → s.heap.size ≤ ad53 j := fun j hj hn => hj.elim (fun h => by have h : j = (42, 0, 0, 0) := h; rw [h, e53]; exact hz53) (fun h => by rw [hx53 j h]; exact hnw j h hn)
  have hI_n53 : (jU (jO (42, 0, 0, 0)) (jU (jO (41, 0, 0, 0)) (jU (jO (40, 0, 0, 0)) (jU (jO (39, 0, 0, 0)) (jU (jO (38, 0, 0, 0)) (jU (jO (37, 0, 0, 0)) (jU (jO (36, 0, 0, 0)) (jU (jO (35, 0, 0, 0)) (jU (jO (34, 0, 0, 0)) (jU (jO (33, 0, 0, 0)) (jU (jO (32, 0, 0, 0)) (jU (jO (31, 0, 0, 0)) (jU (jO (30, 0, 0, 0)) I))))))))))))) (42, 0, 0, 0) := Or.inl rfl
  have hq_n53 := e53
  have hA_n53 : iA a s.heap.size q53 := Or.inr hz53
  refine pF_729 (pc := 107) C hin hP hS hI_t hI_n53 (Or.inl rfl) hq_t hq_n53 dX9_init_107 (fun H locs hP hS => ?_)
  refine lv_aload_n (pc := 110) hx hb dX9_init_110 rfl (lv_at hl 0 rfl) ?_
  refine lv_bipush (pc := 111) (v := (60 : Int32)) hx hb dX9_init_111 (by decide) ?_
  have hf57 : ∀ i, (jU (jO (42, 0, 0, 0)) (jU (jO (41, 0, 0, 0)) (jU (jO (40, 0, 0, 0)) (jU (jO (39, 0, 0, 0)) (jU (jO (38, 0, 0, 0)) (jU (jO (37, 0, 0, 0)) (jU (jO (36, 0, 0, 0)) (jU (jO (35, 0, 0, 0)) (jU (jO (34, 0, 0, 0)) (jU (jO (33, 0, 0, 0)) (jU (jO (32, 0, 0, 0)) (jU (jO (31, 0, 0, 0)) (jU (jO (30, 0, 0, 0)) I))))))))))))) i → ¬ (jO (43, 0, 0, 0)) i := by
    intro i hi hJ
    have hJ2 : (jK 29 18) i := ⟨43, by decide, by decide, hJ⟩
    rcases hi with hi | hi | hi | hi | hi | hi | hi | hi | hi | hi | hi | hi | hi | hi
    · have h1 := jO_r hi; have h2 := jO_r hJ; (try dsimp only at h1); (try dsimp only at h2); omega
    · have h1 := jO_r hi; have h2 := jO_r hJ; (try dsimp only at h1); (try dsimp only at h2); omega
    · have h1 := jO_r hi; have h2 := jO_r hJ; (try dsimp only at h1); (try dsimp only at h2); omega
    · have h1 := jO_r hi; have h2 := jO_r hJ; (try dsimp only at h1); (try dsimp only at h2); omega
    · have h1 := jO_r hi; have h2 := jO_r hJ; (try dsimp only at h1); (try dsimp only at h2); omega
    · have h1 := jO_r hi; have h2 := jO_r hJ; (try dsimp only at h1); (try dsimp only at h2); omega
    · have h1 := jO_r hi; have h2 := jO_r hJ; (try dsimp only at h1); (try dsimp only at h2); omega
    · have h1 := jO_r hi; have h2 := jO_r hJ; (try dsimp only at h1); (try dsimp only at h2); omega
    · have h1 := jO_r hi; have h2 := jO_r hJ; (try dsimp only at h1); (try dsimp only at h2); omega
    · have h1 := jO_r hi; have h2 := jO_r hJ; (try dsimp only at h1); (try dsimp only at h2); omega
    · have h1 := jO_r hi; have h2 := jO_r hJ; (try dsimp only at h1); (try dsimp only at h2); omega
    · have h1 := jO_r hi; have h2 := jO_r hJ; (try dsimp only at h1); (try dsimp only at h2); omega
    · have h1 := jO_r hi; have h2 := jO_r hJ; (try dsimp only at h1); (try dsimp only at h2); omega
    · have he := hfr i hi hJ2
      subst he
      simp [jO] at hJ
  refine r2_newI (pc := 113) (i := (43, 0, 0, 0)) (A := iA a s.heap.size) C hP hS (fun h => hf57 _ h rfl) (show (43 : Nat) ≠ 27 by decide) rfl mw_135 (by decide) (by decide) (Nat.le_of_ble_eq_true rfl) (Nat.le_of_ble_eq_true rfl) (Nat.le_of_ble_eq_true rfl) dX9_init_113 (fun q57 ad57 H e57 hx57 hz57 hP hS => ?_)
  replace hP := hP.toJ rfl rfl
  replace hq_t := (hx57 _ hI_t).trans hq_t
  replace hI_t : (jU (jO (43, 0, 0, 0)) (jU (jO (42, 0, 0, 0)) (jU (jO (41, 0, 0, 0)) (jU (jO (40, 0, 0, 0)) (jU (jO (39, 0, 0, 0)) (jU (jO (38, 0, 0, 0)) (jU (jO (37, 0, 0, 0)) (jU (jO (36, 0, 0, 0)) (jU (jO (35, 0, 0, 0)) (jU (jO (34, 0, 0, 0)) (jU (jO (33, 0, 0, 0)) (jU (jO (32, 0, 0, 0)) (jU (jO (31, 0, 0, 0)) (jU (jO (30, 0, 0, 0)) I)))))))))))))) (29, 0, 0, 0) := Or.inr hI_t
  replace hq_n5 := (hx57 _ hI_n5).trans hq_n5
  replace hI_n5 : (jU (jO (43, 0, 0, 0)) (jU (jO (42, 0, 0, 0)) (jU (jO (41, 0, 0, 0)) (jU (jO (40, 0, 0, 0)) (jU (jO (39, 0, 0, 0)) (jU (jO (38, 0, 0, 0)) (jU (jO (37, 0, 0, 0)) (jU (jO (36, 0, 0, 0)) (jU (jO (35, 0, 0, 0)) (jU (jO (34, 0, 0, 0)) (jU (jO (33, 0, 0, 0)) (jU (jO (32, 0, 0, 0)) (jU (jO (31, 0, 0, 0)) (jU (jO (30, 0, 0, 0)) I)))))))))))))) (30, 0, 0, 0) := Or.inr hI_n5
  replace hq_n9 := (hx57 _ hI_n9).trans hq_n9
  replace hI_n9 : (jU (jO (43, 0, 0, 0)) (jU (jO (42, 0, 0, 0)) (jU (jO (41, 0, 0, 0)) (jU (jO (40, 0, 0, 0)) (jU (jO (39, 0, 0, 0)) (jU (jO (38, 0, 0, 0)) (jU (jO (37, 0, 0, 0)) (jU (jO (36, 0, 0, 0)) (jU (jO (35, 0, 0, 0)) (jU (jO (34, 0, 0, 0)) (jU (jO (33, 0, 0, 0)) (jU (jO (32, 0, 0, 0)) (jU (jO (31, 0, 0, 0)) (jU (jO (30, 0, 0, 0)) I)))))))))))))) (31, 0, 0, 0) := Or.inr hI_n9
  replace hq_n13 := (hx57 _ hI_n13).trans hq_n13
  replace hI_n13 : (jU (jO (43, 0, 0, 0)) (jU (jO (42, 0, 0, 0)) (jU (jO (41, 0, 0, 0)) (jU (jO (40, 0, 0, 0)) (jU (jO (39, 0, 0, 0)) (jU (jO (38, 0, 0, 0)) (jU (jO (37, 0, 0, 0)) (jU (jO (36, 0, 0, 0)) (jU (jO (35, 0, 0, 0)) (jU (jO (34, 0, 0, 0)) (jU (jO (33, 0, 0, 0)) (jU (jO (32, 0, 0, 0)) (jU (jO (31, 0, 0, 0)) (jU (jO (30, 0, 0, 0)) I)))))))))))))) (32, 0, 0, 0) := Or.inr hI_n13
  replace hq_n17 := (hx57 _ hI_n17).trans hq_n17
  replace hI_n17 : (jU (jO (43, 0, 0, 0)) (jU (jO (42, 0, 0, 0)) (jU (jO (41, 0, 0, 0)) (jU (jO (40, 0, 0, 0)) (jU (jO (39, 0, 0, 0)) (jU (jO (38, 0, 0, 0)) (jU (jO (37, 0, 0, 0)) (jU (jO (36, 0, 0, 0)) (jU (jO (35, 0, 0, 0)) (jU (jO (34, 0, 0, 0)) (jU (jO (33, 0, 0, 0)) (jU (jO (32, 0, 0, 0)) (jU (jO (31, 0, 0, 0)) (jU (jO (30, 0, 0, 0)) I)))))))))))))) (33, 0, 0, 0) := Or.inr hI_n17
  replace hq_n21 := (hx57 _ hI_n21).trans hq_n21
  replace hI_n21 : (jU (jO (43, 0, 0, 0)) (jU (jO (42, 0, 0, 0)) (jU (jO (41, 0, 0, 0)) (jU (jO (40, 0, 0, 0)) (jU (jO (39, 0, 0, 0)) (jU (jO (38, 0, 0, 0)) (jU (jO (37, 0, 0, 0)) (jU (jO (36, 0, 0, 0)) (jU (jO (35, 0, 0, 0)) (jU (jO (34, 0, 0, 0)) (jU (jO (33, 0, 0, 0)) (jU (jO (32, 0, 0, 0)) (jU (jO (31, 0, 0, 0)) (jU (jO (30, 0, 0, 0)) I)))))))))))))) (34, 0, 0, 0) := Or.inr hI_n21
  replace hq_n25 := (hx57 _ hI_n25).trans hq_n25
  replace hI_n25 : (jU (jO (43, 0, 0, 0)) (jU (jO (42, 0, 0, 0)) (jU (jO (41, 0, 0, 0)) (jU (jO (40, 0, 0, 0)) (jU (jO (39, 0, 0, 0)) (jU (jO (38, 0, 0, 0)) (jU (jO (37, 0, 0, 0)) (jU (jO (36, 0, 0, 0)) (jU (jO (35, 0, 0, 0)) (jU (jO (34, 0, 0, 0)) (jU (jO (33, 0, 0, 0)) (jU (jO (32, 0, 0, 0)) (jU (jO (31, 0, 0, 0)) (jU (jO (30, 0, 0, 0)) I)))))))))))))) (35, 0, 0, 0) := Or.inr hI_n25
  replace hq_n29 := (hx57 _ hI_n29).trans hq_n29
  replace hI_n29 : (jU (jO (43, 0, 0, 0)) (jU (jO (42, 0, 0, 0)) (jU (jO (41, 0, 0, 0)) (jU (jO (40, 0, 0, 0)) (jU (jO (39, 0, 0, 0)) (jU (jO (38, 0, 0, 0)) (jU (jO (37, 0, 0, 0)) (jU (jO (36, 0, 0, 0)) (jU (jO (35, 0, 0, 0)) (jU (jO (34, 0, 0, 0)) (jU (jO (33, 0, 0, 0)) (jU (jO (32, 0, 0, 0)) (jU (jO (31, 0, 0, 0)) (jU (jO (30, 0, 0, 0)) I)))))))))))))) (36, 0, 0, 0) := Or.inr hI_n29
  replace hq_n33 := (hx57 _ hI_n33).trans hq_n33
  replace hI_n33 : (jU (jO (43, 0, 0, 0)) (jU (jO (42, 0, 0, 0)) (jU (jO (41, 0, 0, 0)) (jU (jO (40, 0, 0, 0)) (jU (jO (39, 0, 0, 0)) (jU (jO (38, 0, 0, 0)) (jU (jO (37, 0, 0, 0)) (jU (jO (36, 0, 0, 0)) (jU (jO (35, 0, 0, 0)) (jU (jO (34, 0, 0, 0)) (jU (jO (33, 0, 0, 0)) (jU (jO (32, 0, 0, 0)) (jU (jO (31, 0, 0, 0)) (jU (jO (30, 0, 0, 0)) I)))))))))))))) (37, 0, 0, 0) := Or.inr hI_n33
  replace hq_n37 := (hx57 _ hI_n37).trans hq_n37
  replace hI_n37 : (jU (jO (43, 0, 0, 0)) (jU (jO (42, 0, 0, 0)) (jU (jO (41, 0, 0, 0)) (jU (jO (40, 0, 0, 0)) (jU (jO (39, 0, 0, 0)) (jU (jO (38, 0, 0, 0)) (jU (jO (37, 0, 0, 0)) (jU (jO (36, 0, 0, 0)) (jU (jO (35, 0, 0, 0)) (jU (jO (34, 0, 0, 0)) (jU (jO (33, 0, 0, 0)) (jU (jO (32, 0, 0, 0)) (jU (jO (31, 0, 0, 0)) (jU (jO (30, 0, 0, 0)) I)))))))))))))) (38, 0, 0, 0) := Or.inr hI_n37
  replace hq_n41 := (hx57 _ hI_n41).trans hq_n41
  replace hI_n41 : (jU (jO (43, 0, 0, 0)) (jU (jO (42, 0, 0, 0)) (jU (jO (41, 0, 0, 0)) (jU (jO (40, 0, 0, 0)) (jU (jO (39, 0, 0, 0)) (jU (jO (38, 0, 0, 0)) (jU (jO (37, 0, 0, 0)) (jU (jO (36, 0, 0, 0)) (jU (jO (35, 0, 0, 0)) (jU (jO (34, 0, 0, 0)) (jU (jO (33, 0, 0, 0)) (jU (jO (32, 0, 0, 0)) (jU (jO (31, 0, 0, 0)) (jU (jO (30, 0, 0, 0)) I)))))))))))))) (39, 0, 0, 0) := Or.inr hI_n41
  replace hq_n45 := (hx57 _ hI_n45).trans hq_n45
  replace hI_n45 : (jU (jO (43, 0, 0, 0)) (jU (jO (42, 0, 0, 0)) (jU (jO (41, 0, 0, 0)) (jU (jO (40, 0, 0, 0)) (jU (jO (39, 0, 0, 0)) (jU (jO (38, 0, 0, 0)) (jU (jO (37, 0, 0, 0)) (jU (jO (36, 0, 0, 0)) (jU (jO (35, 0, 0, 0)) (jU (jO (34, 0, 0, 0)) (jU (jO (33, 0, 0, 0)) (jU (jO (32, 0, 0, 0)) (jU (jO (31, 0, 0, 0)) (jU (jO (30, 0, 0, 0)) I)))))))))))))) (40, 0, 0, 0) := Or.inr hI_n45
  replace hq_n49 := (hx57 _ hI_n49).trans hq_n49
  replace hI_n49 : (jU (jO (43, 0, 0, 0)) (jU (jO (42, 0, 0, 0)) (jU (jO (41, 0, 0, 0)) (jU (jO (40, 0, 0, 0)) (jU (jO (39, 0, 0, 0)) (jU (jO (38, 0, 0, 0)) (jU (jO (37, 0, 0, 0)) (jU (jO (36, 0, 0, 0)) (jU (jO (35, 0, 0, 0)) (jU (jO (34, 0, 0, 0)) (jU (jO (33, 0, 0, 0)) (jU (jO (32, 0, 0, 0)) (jU (jO (31, 0, 0, 0)) (jU (jO (30, 0, 0, 0)) I)))))))))))))) (41, 0, 0, 0) := Or.inr hI_n49
  replace hq_n53 := (hx57 _ hI_n53).trans hq_n53
  replace hI_n53 : (jU (jO (43, 0, 0, 0)) (jU (jO (42, 0, 0, 0)) (jU (jO (41, 0, 0, 0)) (jU (jO (40, 0, 0, 0)) (jU (jO (39, 0, 0, 0)) (jU (jO (38, 0, 0, 0)) (jU (jO (37, 0, 0, 0)) (jU (jO (36, 0, 0, 0)) (jU (jO (35, 0, 0, 0)) (jU (jO (34, 0, 0, 0)) (jU (jO (33, 0, 0, 0)) (jU (jO (32, 0, 0, 0)) (jU (jO (31, 0, 0, 0)) (jU (jO (30, 0, 0, 0)) I)))))))))))))) (42, 0, 0, 0) := Or.inr hI_n53
  replace hxt : ∀ j, I j → ad57 j = ad j := fun j hj => (hx57 j (hup j hj)).trans (hxt j hj)
  replace hup : ∀ j, I j → (jU (jO (43, 0, 0, 0)) (jU (jO (42, 0, 0, 0)) (jU (jO (41, 0, 0, 0)) (jU (jO (40, 0, 0, 0)) (jU (jO (39, 0, 0, 0)) (jU (jO (38, 0, 0, 0)) (jU (jO (37, 0, 0, 0)) (jU (jO (36, 0, 0, 0)) (jU (jO (35, 0, 0, 0)) (jU (jO (34, 0, 0, 0)) (jU (jO (33, 0, 0, 0)) (jU (jO (32, 0, 0, 0)) (jU (jO (31, 0, 0, 0)) (jU (jO (30, 0, 0, 0)) I)))))))))))))) j := fun j hj => Or.inr (hup j hj)
  replace hnw : ∀ j, (jU (jO (43, 0, 0, 0)) (jU (jO (42, 0, 0, 0)) (jU (jO (41, 0, 0, 0)) (jU (jO (40, 0, 0, 0)) (jU (jO (39, 0, 0, 0)) (jU (jO (38, 0, 0, 0)) (jU (jO (37, 0, 0, 0)) (jU (jO (36, 0, 0, 0)) (jU (jO (35, 0, 0, 0)) (jU (jO (34, 0, 0, 0)) (jU (jO (33, 0, 0, 0)) (jU (jO (32, 0, 0, 0)) (jU (jO (31, 0, 0, 0)) (jU (jO (30, 0, 0, 0)) I)))))))))))))) j → ¬ I j → s.heap.size ≤ ad57 j := fun j hj hn => hj.elim (fun h => by have h : j = (43, 0, 0, 0) := h; rw [h, e57]; exact hz57) (fun h => by rw [hx57 j h]; exact hnw j h hn)
  have hI_n57 : (jU (jO (43, 0, 0, 0)) (jU (jO (42, 0, 0, 0)) (jU (jO (41, 0, 0, 0)) (jU (jO (40, 0, 0, 0)) (jU (jO (39, 0, 0, 0)) (jU (jO (38, 0, 0, 0)) (jU (jO (37, 0, 0, 0)) (jU (jO (36, 0, 0, 0)) (jU (jO (35, 0, 0, 0)) (jU (jO (34, 0, 0, 0)) (jU (jO (33, 0, 0, 0)) (jU (jO (32, 0, 0, 0)) (jU (jO (31, 0, 0, 0)) (jU (jO (30, 0, 0, 0)) I)))))))))))))) (43, 0, 0, 0) := Or.inl rfl
  have hq_n57 := e57
  have hA_n57 : iA a s.heap.size q57 := Or.inr hz57
  refine pF_730 (pc := 115) C hin hP hS hI_t hI_n57 (Or.inl rfl) hq_t hq_n57 dX9_init_115 (fun H locs hP hS => ?_)
  refine lv_aload_n (pc := 118) hx hb dX9_init_118 rfl (lv_at hl 0 rfl) ?_
  refine lv_bipush (pc := 119) (v := (60 : Int32)) hx hb dX9_init_119 (by decide) ?_
  have hf61 : ∀ i, (jU (jO (43, 0, 0, 0)) (jU (jO (42, 0, 0, 0)) (jU (jO (41, 0, 0, 0)) (jU (jO (40, 0, 0, 0)) (jU (jO (39, 0, 0, 0)) (jU (jO (38, 0, 0, 0)) (jU (jO (37, 0, 0, 0)) (jU (jO (36, 0, 0, 0)) (jU (jO (35, 0, 0, 0)) (jU (jO (34, 0, 0, 0)) (jU (jO (33, 0, 0, 0)) (jU (jO (32, 0, 0, 0)) (jU (jO (31, 0, 0, 0)) (jU (jO (30, 0, 0, 0)) I)))))))))))))) i → ¬ (jO (44, 0, 0, 0)) i := by
    intro i hi hJ
    have hJ2 : (jK 29 18) i := ⟨44, by decide, by decide, hJ⟩
    rcases hi with hi | hi | hi | hi | hi | hi | hi | hi | hi | hi | hi | hi | hi | hi | hi
    · have h1 := jO_r hi; have h2 := jO_r hJ; (try dsimp only at h1); (try dsimp only at h2); omega
    · have h1 := jO_r hi; have h2 := jO_r hJ; (try dsimp only at h1); (try dsimp only at h2); omega
    · have h1 := jO_r hi; have h2 := jO_r hJ; (try dsimp only at h1); (try dsimp only at h2); omega
    · have h1 := jO_r hi; have h2 := jO_r hJ; (try dsimp only at h1); (try dsimp only at h2); omega
    · have h1 := jO_r hi; have h2 := jO_r hJ; (try dsimp only at h1); (try dsimp only at h2); omega
    · have h1 := jO_r hi; have h2 := jO_r hJ; (try dsimp only at h1); (try dsimp only at h2); omega
    · have h1 := jO_r hi; have h2 := jO_r hJ; (try dsimp only at h1); (try dsimp only at h2); omega
    · have h1 := jO_r hi; have h2 := jO_r hJ; (try dsimp only at h1); (try dsimp only at h2); omega
    · have h1 := jO_r hi; have h2 := jO_r hJ; (try dsimp only at h1); (try dsimp only at h2); omega
    · have h1 := jO_r hi; have h2 := jO_r hJ; (try dsimp only at h1); (try dsimp only at h2); omega
    · have h1 := jO_r hi; have h2 := jO_r hJ; (try dsimp only at h1); (try dsimp only at h2); omega
    · have h1 := jO_r hi; have h2 := jO_r hJ; (try dsimp only at h1); (try dsimp only at h2); omega
    · have h1 := jO_r hi; have h2 := jO_r hJ; (try dsimp only at h1); (try dsimp only at h2); omega
    · have h1 := jO_r hi; have h2 := jO_r hJ; (try dsimp only at h1); (try dsimp only at h2); omega
    · have he := hfr i hi hJ2
      subst he
      simp [jO] at hJ
  refine r2_newI (pc := 121) (i := (44, 0, 0, 0)) (A := iA a s.heap.size) C hP hS (fun h => hf61 _ h rfl) (show (44 : Nat) ≠ 27 by decide) rfl mw_135 (by decide) (by decide) (Nat.le_of_ble_eq_true rfl) (Nat.le_of_ble_eq_true rfl) (Nat.le_of_ble_eq_true rfl) dX9_init_121 (fun q61 ad61 H e61 hx61 hz61 hP hS => ?_)
  replace hP := hP.toJ rfl rfl
  replace hq_t := (hx61 _ hI_t).trans hq_t
  replace hI_t : (jU (jO (44, 0, 0, 0)) (jU (jO (43, 0, 0, 0)) (jU (jO (42, 0, 0, 0)) (jU (jO (41, 0, 0, 0)) (jU (jO (40, 0, 0, 0)) (jU (jO (39, 0, 0, 0)) (jU (jO (38, 0, 0, 0)) (jU (jO (37, 0, 0, 0)) (jU (jO (36, 0, 0, 0)) (jU (jO (35, 0, 0, 0)) (jU (jO (34, 0, 0, 0)) (jU (jO (33, 0, 0, 0)) (jU (jO (32, 0, 0, 0)) (jU (jO (31, 0, 0, 0)) (jU (jO (30, 0, 0, 0)) I))))))))))))))) (29, 0, 0, 0) := Or.inr hI_t
  replace hq_n5 := (hx61 _ hI_n5).trans hq_n5
  replace hI_n5 : (jU (jO (44, 0, 0, 0)) (jU (jO (43, 0, 0, 0)) (jU (jO (42, 0, 0, 0)) (jU (jO (41, 0, 0, 0)) (jU (jO (40, 0, 0, 0)) (jU (jO (39, 0, 0, 0)) (jU (jO (38, 0, 0, 0)) (jU (jO (37, 0, 0, 0)) (jU (jO (36, 0, 0, 0)) (jU (jO (35, 0, 0, 0)) (jU (jO (34, 0, 0, 0)) (jU (jO (33, 0, 0, 0)) (jU (jO (32, 0, 0, 0)) (jU (jO (31, 0, 0, 0)) (jU (jO (30, 0, 0, 0)) I))))))))))))))) (30, 0, 0, 0) := Or.inr hI_n5
  replace hq_n9 := (hx61 _ hI_n9).trans hq_n9
  replace hI_n9 : (jU (jO (44, 0, 0, 0)) (jU (jO (43, 0, 0, 0)) (jU (jO (42, 0, 0, 0)) (jU (jO (41, 0, 0, 0)) (jU (jO (40, 0, 0, 0)) (jU (jO (39, 0, 0, 0)) (jU (jO (38, 0, 0, 0)) (jU (jO (37, 0, 0, 0)) (jU (jO (36, 0, 0, 0)) (jU (jO (35, 0, 0, 0)) (jU (jO (34, 0, 0, 0)) (jU (jO (33, 0, 0, 0)) (jU (jO (32, 0, 0, 0)) (jU (jO (31, 0, 0, 0)) (jU (jO (30, 0, 0, 0)) I))))))))))))))) (31, 0, 0, 0) := Or.inr hI_n9
  replace hq_n13 := (hx61 _ hI_n13).trans hq_n13
  replace hI_n13 : (jU (jO (44, 0, 0, 0)) (jU (jO (43, 0, 0, 0)) (jU (jO (42, 0, 0, 0)) (jU (jO (41, 0, 0, 0)) (jU (jO (40, 0, 0, 0)) (jU (jO (39, 0, 0, 0)) (jU (jO (38, 0, 0, 0)) (jU (jO (37, 0, 0, 0)) (jU (jO (36, 0, 0, 0)) (jU (jO (35, 0, 0, 0)) (jU (jO (34, 0, 0, 0)) (jU (jO (33, 0, 0, 0)) (jU (jO (32, 0, 0, 0)) (jU (jO (31, 0, 0, 0)) (jU (jO (30, 0, 0, 0)) I))))))))))))))) (32, 0, 0, 0) := Or.inr hI_n13
  replace hq_n17 := (hx61 _ hI_n17).trans hq_n17
  replace hI_n17 : (jU (jO (44, 0, 0, 0)) (jU (jO (43, 0, 0, 0)) (jU (jO (42, 0, 0, 0)) (jU (jO (41, 0, 0, 0)) (jU (jO (40, 0, 0, 0)) (jU (jO (39, 0, 0, 0)) (jU (jO (38, 0, 0, 0)) (jU (jO (37, 0, 0, 0)) (jU (jO (36, 0, 0, 0)) (jU (jO (35, 0, 0, 0)) (jU (jO (34, 0, 0, 0)) (jU (jO (33, 0, 0, 0)) (jU (jO (32, 0, 0, 0)) (jU (jO (31, 0, 0, 0)) (jU (jO (30, 0, 0, 0)) I))))))))))))))) (33, 0, 0, 0) := Or.inr hI_n17
  replace hq_n21 := (hx61 _ hI_n21).trans hq_n21
  replace hI_n21 : (jU (jO (44, 0, 0, 0)) (jU (jO (43, 0, 0, 0)) (jU (jO (42, 0, 0, 0)) (jU (jO (41, 0, 0, 0)) (jU (jO (40, 0, 0, 0)) (jU (jO (39, 0, 0, 0)) (jU (jO (38, 0, 0, 0)) (jU (jO (37, 0, 0, 0)) (jU (jO (36, 0, 0, 0)) (jU (jO (35, 0, 0, 0)) (jU (jO (34, 0, 0, 0)) (jU (jO (33, 0, 0, 0)) (jU (jO (32, 0, 0, 0)) (jU (jO (31, 0, 0, 0)) (jU (jO (30, 0, 0, 0)) I))))))))))))))) (34, 0, 0, 0) := Or.inr hI_n21
  replace hq_n25 := (hx61 _ hI_n25).trans hq_n25
  replace hI_n25 : (jU (jO (44, 0, 0, 0)) (jU (jO (43, 0, 0, 0)) (jU (jO (42, 0, 0, 0)) (jU (jO (41, 0, 0, 0)) (jU (jO (40, 0, 0, 0)) (jU (jO (39, 0, 0, 0)) (jU (jO (38, 0, 0, 0)) (jU (jO (37, 0, 0, 0)) (jU (jO (36, 0, 0, 0)) (jU (jO (35, 0, 0, 0)) (jU (jO (34, 0, 0, 0)) (jU (jO (33, 0, 0, 0)) (jU (jO (32, 0, 0, 0)) (jU (jO (31, 0, 0, 0)) (jU (jO (30, 0, 0, 0)) I))))))))))))))) (35, 0, 0, 0) := Or.inr hI_n25
  replace hq_n29 := (hx61 _ hI_n29).trans hq_n29
  replace hI_n29 : (jU (jO (44, 0, 0, 0)) (jU (jO (43, 0, 0, 0)) (jU (jO (42, 0, 0, 0)) (jU (jO (41, 0, 0, 0)) (jU (jO (40, 0, 0, 0)) (jU (jO (39, 0, 0, 0)) (jU (jO (38, 0, 0, 0)) (jU (jO (37, 0, 0, 0)) (jU (jO (36, 0, 0, 0)) (jU (jO (35, 0, 0, 0)) (jU (jO (34, 0, 0, 0)) (jU (jO (33, 0, 0, 0)) (jU (jO (32, 0, 0, 0)) (jU (jO (31, 0, 0, 0)) (jU (jO (30, 0, 0, 0)) I))))))))))))))) (36, 0, 0, 0) := Or.inr hI_n29
  replace hq_n33 := (hx61 _ hI_n33).trans hq_n33
  replace hI_n33 : (jU (jO (44, 0, 0, 0)) (jU (jO (43, 0, 0, 0)) (jU (jO (42, 0, 0, 0)) (jU (jO (41, 0, 0, 0)) (jU (jO (40, 0, 0, 0)) (jU (jO (39, 0, 0, 0)) (jU (jO (38, 0, 0, 0)) (jU (jO (37, 0, 0, 0)) (jU (jO (36, 0, 0, 0)) (jU (jO (35, 0, 0, 0)) (jU (jO (34, 0, 0, 0)) (jU (jO (33, 0, 0, 0)) (jU (jO (32, 0, 0, 0)) (jU (jO (31, 0, 0, 0)) (jU (jO (30, 0, 0, 0)) I))))))))))))))) (37, 0, 0, 0) := Or.inr hI_n33
  replace hq_n37 := (hx61 _ hI_n37).trans hq_n37
  replace hI_n37 : (jU (jO (44, 0, 0, 0)) (jU (jO (43, 0, 0, 0)) (jU (jO (42, 0, 0, 0)) (jU (jO (41, 0, 0, 0)) (jU (jO (40, 0, 0, 0)) (jU (jO (39, 0, 0, 0)) (jU (jO (38, 0, 0, 0)) (jU (jO (37, 0, 0, 0)) (jU (jO (36, 0, 0, 0)) (jU (jO (35, 0, 0, 0)) (jU (jO (34, 0, 0, 0)) (jU (jO (33, 0, 0, 0)) (jU (jO (32, 0, 0, 0)) (jU (jO (31, 0, 0, 0)) (jU (jO (30, 0, 0, 0)) I))))))))))))))) (38, 0, 0, 0) := Or.inr hI_n37
  replace hq_n41 := (hx61 _ hI_n41).trans hq_n41
  replace hI_n41 : (jU (jO (44, 0, 0, 0)) (jU (jO (43, 0, 0, 0)) (jU (jO (42, 0, 0, 0)) (jU (jO (41, 0, 0, 0)) (jU (jO (40, 0, 0, 0)) (jU (jO (39, 0, 0, 0)) (jU (jO (38, 0, 0, 0)) (jU (jO (37, 0, 0, 0)) (jU (jO (36, 0, 0, 0)) (jU (jO (35, 0, 0, 0)) (jU (jO (34, 0, 0, 0)) (jU (jO (33, 0, 0, 0)) (jU (jO (32, 0, 0, 0)) (jU (jO (31, 0, 0, 0)) (jU (jO (30, 0, 0, 0)) I))))))))))))))) (39, 0, 0, 0) := Or.inr hI_n41
  replace hq_n45 := (hx61 _ hI_n45).trans hq_n45
  replace hI_n45 : (jU (jO (44, 0, 0, 0)) (jU (jO (43, 0, 0, 0)) (jU (jO (42, 0, 0, 0)) (jU (jO (41, 0, 0, 0)) (jU (jO (40, 0, 0, 0)) (jU (jO (39, 0, 0, 0)) (jU (jO (38, 0, 0, 0)) (jU (jO (37, 0, 0, 0)) (jU (jO (36, 0, 0, 0)) (jU (jO (35, 0, 0, 0)) (jU (jO (34, 0, 0, 0)) (jU (jO (33, 0, 0, 0)) (jU (jO (32, 0, 0, 0)) (jU (jO (31, 0, 0, 0)) (jU (jO (30, 0, 0, 0)) I))))))))))))))) (40, 0, 0, 0) := Or.inr hI_n45
  replace hq_n49 := (hx61 _ hI_n49).trans hq_n49
  replace hI_n49 : (jU (jO (44, 0, 0, 0)) (jU (jO (43, 0, 0, 0)) (jU (jO (42, 0, 0, 0)) (jU (jO (41, 0, 0, 0)) (jU (jO (40, 0, 0, 0)) (jU (jO (39, 0, 0, 0)) (jU (jO (38, 0, 0, 0)) (jU (jO (37, 0, 0, 0)) (jU (jO (36, 0, 0, 0)) (jU (jO (35, 0, 0, 0)) (jU (jO (34, 0, 0, 0)) (jU (jO (33, 0, 0, 0)) (jU (jO (32, 0, 0, 0)) (jU (jO (31, 0, 0, 0)) (jU (jO (30, 0, 0, 0)) I))))))))))))))) (41, 0, 0, 0) := Or.inr hI_n49
  replace hq_n53 := (hx61 _ hI_n53).trans hq_n53
  replace hI_n53 : (jU (jO (44, 0, 0, 0)) (jU (jO (43, 0, 0, 0)) (jU (jO (42, 0, 0, 0)) (jU (jO (41, 0, 0, 0)) (jU (jO (40, 0, 0, 0)) (jU (jO (39, 0, 0, 0)) (jU (jO (38, 0, 0, 0)) (jU (jO (37, 0, 0, 0)) (jU (jO (36, 0, 0, 0)) (jU (jO (35, 0, 0, 0)) (jU (jO (34, 0, 0, 0)) (jU (jO (33, 0, 0, 0)) (jU (jO (32, 0, 0, 0)) (jU (jO (31, 0, 0, 0)) (jU (jO (30, 0, 0, 0)) I))))))))))))))) (42, 0, 0, 0) := Or.inr hI_n53
  replace hq_n57 := (hx61 _ hI_n57).trans hq_n57
  replace hI_n57 : (jU (jO (44, 0, 0, 0)) (jU (jO (43, 0, 0, 0)) (jU (jO (42, 0, 0, 0)) (jU (jO (41, 0, 0, 0)) (jU (jO (40, 0, 0, 0)) (jU (jO (39, 0, 0, 0)) (jU (jO (38, 0, 0, 0)) (jU (jO (37, 0, 0, 0)) (jU (jO (36, 0, 0, 0)) (jU (jO (35, 0, 0, 0)) (jU (jO (34, 0, 0, 0)) (jU (jO (33, 0, 0, 0)) (jU (jO (32, 0, 0, 0)) (jU (jO (31, 0, 0, 0)) (jU (jO (30, 0, 0, 0)) I))))))))))))))) (43, 0, 0, 0) := Or.inr hI_n57
  replace hxt : ∀ j, I j → ad61 j = ad j := fun j hj => (hx61 j (hup j hj)).trans (hxt j hj)
  replace hup : ∀ j, I j → (jU (jO (44, 0, 0, 0)) (jU (jO (43, 0, 0, 0)) (jU (jO (42, 0, 0, 0)) (jU (jO (41, 0, 0, 0)) (jU (jO (40, 0, 0, 0)) (jU (jO (39, 0, 0, 0)) (jU (jO (38, 0, 0, 0)) (jU (jO (37, 0, 0, 0)) (jU (jO (36, 0, 0, 0)) (jU (jO (35, 0, 0, 0)) (jU (jO (34, 0, 0, 0)) (jU (jO (33, 0, 0, 0)) (jU (jO (32, 0, 0, 0)) (jU (jO (31, 0, 0, 0)) (jU (jO (30, 0, 0, 0)) I))))))))))))))) j := fun j hj => Or.inr (hup j hj)
  replace hnw : ∀ j, (jU (jO (44, 0, 0, 0)) (jU (jO (43, 0, 0, 0)) (jU (jO (42, 0, 0, 0)) (jU (jO (41, 0, 0, 0)) (jU (jO (40, 0, 0, 0)) (jU (jO (39, 0, 0, 0)) (jU (jO (38, 0, 0, 0)) (jU (jO (37, 0, 0, 0)) (jU (jO (36, 0, 0, 0)) (jU (jO (35, 0, 0, 0)) (jU (jO (34, 0, 0, 0)) (jU (jO (33, 0, 0, 0)) (jU (jO (32, 0, 0, 0)) (jU (jO (31, 0, 0, 0)) (jU (jO (30, 0, 0, 0)) I))))))))))))))) j → ¬ I j → s.heap.size ≤ ad61 j := fun j hj hn => hj.elim (fun h => by have h : j = (44, 0, 0, 0) := h; rw [h, e61]; exact hz61) (fun h => by rw [hx61 j h]; exact hnw j h hn)
  have hI_n61 : (jU (jO (44, 0, 0, 0)) (jU (jO (43, 0, 0, 0)) (jU (jO (42, 0, 0, 0)) (jU (jO (41, 0, 0, 0)) (jU (jO (40, 0, 0, 0)) (jU (jO (39, 0, 0, 0)) (jU (jO (38, 0, 0, 0)) (jU (jO (37, 0, 0, 0)) (jU (jO (36, 0, 0, 0)) (jU (jO (35, 0, 0, 0)) (jU (jO (34, 0, 0, 0)) (jU (jO (33, 0, 0, 0)) (jU (jO (32, 0, 0, 0)) (jU (jO (31, 0, 0, 0)) (jU (jO (30, 0, 0, 0)) I))))))))))))))) (44, 0, 0, 0) := Or.inl rfl
  have hq_n61 := e61
  have hA_n61 : iA a s.heap.size q61 := Or.inr hz61
  refine pF_731 (pc := 123) C hin hP hS hI_t hI_n61 (Or.inl rfl) hq_t hq_n61 dX9_init_123 (fun H locs hP hS => ?_)
  refine lv_aload_n (pc := 126) hx hb dX9_init_126 rfl (lv_at hl 0 rfl) ?_
  refine lv_sipush (pc := 127) (v := (1000 : Int32)) hx hb dX9_init_127 (by decide) ?_
  have hf65 : ∀ i, (jU (jO (44, 0, 0, 0)) (jU (jO (43, 0, 0, 0)) (jU (jO (42, 0, 0, 0)) (jU (jO (41, 0, 0, 0)) (jU (jO (40, 0, 0, 0)) (jU (jO (39, 0, 0, 0)) (jU (jO (38, 0, 0, 0)) (jU (jO (37, 0, 0, 0)) (jU (jO (36, 0, 0, 0)) (jU (jO (35, 0, 0, 0)) (jU (jO (34, 0, 0, 0)) (jU (jO (33, 0, 0, 0)) (jU (jO (32, 0, 0, 0)) (jU (jO (31, 0, 0, 0)) (jU (jO (30, 0, 0, 0)) I))))))))))))))) i → ¬ (jO (45, 0, 0, 0)) i := by
    intro i hi hJ
    have hJ2 : (jK 29 18) i := ⟨45, by decide, by decide, hJ⟩
    rcases hi with hi | hi | hi | hi | hi | hi | hi | hi | hi | hi | hi | hi | hi | hi | hi | hi
    · have h1 := jO_r hi; have h2 := jO_r hJ; (try dsimp only at h1); (try dsimp only at h2); omega
    · have h1 := jO_r hi; have h2 := jO_r hJ; (try dsimp only at h1); (try dsimp only at h2); omega
    · have h1 := jO_r hi; have h2 := jO_r hJ; (try dsimp only at h1); (try dsimp only at h2); omega
    · have h1 := jO_r hi; have h2 := jO_r hJ; (try dsimp only at h1); (try dsimp only at h2); omega
    · have h1 := jO_r hi; have h2 := jO_r hJ; (try dsimp only at h1); (try dsimp only at h2); omega
    · have h1 := jO_r hi; have h2 := jO_r hJ; (try dsimp only at h1); (try dsimp only at h2); omega
    · have h1 := jO_r hi; have h2 := jO_r hJ; (try dsimp only at h1); (try dsimp only at h2); omega
    · have h1 := jO_r hi; have h2 := jO_r hJ; (try dsimp only at h1); (try dsimp only at h2); omega
    · have h1 := jO_r hi; have h2 := jO_r hJ; (try dsimp only at h1); (try dsimp only at h2); omega
    · have h1 := jO_r hi; have h2 := jO_r hJ; (try dsimp only at h1); (try dsimp only at h2); omega
    · have h1 := jO_r hi; have h2 := jO_r hJ; (try dsimp only at h1); (try dsimp only at h2); omega
    · have h1 := jO_r hi; have h2 := jO_r hJ; (try dsimp only at h1); (try dsimp only at h2); omega
    · have h1 := jO_r hi; have h2 := jO_r hJ; (try dsimp only at h1); (try dsimp only at h2); omega
    · have h1 := jO_r hi; have h2 := jO_r hJ; (try dsimp only at h1); (try dsimp only at h2); omega
    · have h1 := jO_r hi; have h2 := jO_r hJ; (try dsimp only at h1); (try dsimp only at h2); omega
    · have he := hfr i hi hJ2
      subst he
      simp [jO] at hJ
  refine r2_newI (pc := 130) (i := (45, 0, 0, 0)) (A := iA a s.heap.size) C hP hS (fun h => hf65 _ h rfl) (show (45 : Nat) ≠ 27 by decide) rfl mw_135 (by decide) (by decide) (Nat.le_of_ble_eq_true rfl) (Nat.le_of_ble_eq_true rfl) (Nat.le_of_ble_eq_true rfl) dX9_init_130 (fun q65 ad65 H e65 hx65 hz65 hP hS => ?_)
  replace hP := hP.toJ rfl rfl
  replace hq_t := (hx65 _ hI_t).trans hq_t
  replace hI_t : (jU (jO (45, 0, 0, 0)) (jU (jO (44, 0, 0, 0)) (jU (jO (43, 0, 0, 0)) (jU (jO (42, 0, 0, 0)) (jU (jO (41, 0, 0, 0)) (jU (jO (40, 0, 0, 0)) (jU (jO (39, 0, 0, 0)) (jU (jO (38, 0, 0, 0)) (jU (jO (37, 0, 0, 0)) (jU (jO (36, 0, 0, 0)) (jU (jO (35, 0, 0, 0)) (jU (jO (34, 0, 0, 0)) (jU (jO (33, 0, 0, 0)) (jU (jO (32, 0, 0, 0)) (jU (jO (31, 0, 0, 0)) (jU (jO (30, 0, 0, 0)) I)))))))))))))))) (29, 0, 0, 0) := Or.inr hI_t
  replace hq_n5 := (hx65 _ hI_n5).trans hq_n5
  replace hI_n5 : (jU (jO (45, 0, 0, 0)) (jU (jO (44, 0, 0, 0)) (jU (jO (43, 0, 0, 0)) (jU (jO (42, 0, 0, 0)) (jU (jO (41, 0, 0, 0)) (jU (jO (40, 0, 0, 0)) (jU (jO (39, 0, 0, 0)) (jU (jO (38, 0, 0, 0)) (jU (jO (37, 0, 0, 0)) (jU (jO (36, 0, 0, 0)) (jU (jO (35, 0, 0, 0)) (jU (jO (34, 0, 0, 0)) (jU (jO (33, 0, 0, 0)) (jU (jO (32, 0, 0, 0)) (jU (jO (31, 0, 0, 0)) (jU (jO (30, 0, 0, 0)) I)))))))))))))))) (30, 0, 0, 0) := Or.inr hI_n5
  replace hq_n9 := (hx65 _ hI_n9).trans hq_n9
  replace hI_n9 : (jU (jO (45, 0, 0, 0)) (jU (jO (44, 0, 0, 0)) (jU (jO (43, 0, 0, 0)) (jU (jO (42, 0, 0, 0)) (jU (jO (41, 0, 0, 0)) (jU (jO (40, 0, 0, 0)) (jU (jO (39, 0, 0, 0)) (jU (jO (38, 0, 0, 0)) (jU (jO (37, 0, 0, 0)) (jU (jO (36, 0, 0, 0)) (jU (jO (35, 0, 0, 0)) (jU (jO (34, 0, 0, 0)) (jU (jO (33, 0, 0, 0)) (jU (jO (32, 0, 0, 0)) (jU (jO (31, 0, 0, 0)) (jU (jO (30, 0, 0, 0)) I)))))))))))))))) (31, 0, 0, 0) := Or.inr hI_n9
  replace hq_n13 := (hx65 _ hI_n13).trans hq_n13
  replace hI_n13 : (jU (jO (45, 0, 0, 0)) (jU (jO (44, 0, 0, 0)) (jU (jO (43, 0, 0, 0)) (jU (jO (42, 0, 0, 0)) (jU (jO (41, 0, 0, 0)) (jU (jO (40, 0, 0, 0)) (jU (jO (39, 0, 0, 0)) (jU (jO (38, 0, 0, 0)) (jU (jO (37, 0, 0, 0)) (jU (jO (36, 0, 0, 0)) (jU (jO (35, 0, 0, 0)) (jU (jO (34, 0, 0, 0)) (jU (jO (33, 0, 0, 0)) (jU (jO (32, 0, 0, 0)) (jU (jO (31, 0, 0, 0)) (jU (jO (30, 0, 0, 0)) I)))))))))))))))) (32, 0, 0, 0) := Or.inr hI_n13
  replace hq_n17 := (hx65 _ hI_n17).trans hq_n17
  replace hI_n17 : (jU (jO (45, 0, 0, 0)) (jU (jO (44, 0, 0, 0)) (jU (jO (43, 0, 0, 0)) (jU (jO (42, 0, 0, 0)) (jU (jO (41, 0, 0, 0)) (jU (jO (40, 0, 0, 0)) (jU (jO (39, 0, 0, 0)) (jU (jO (38, 0, 0, 0)) (jU (jO (37, 0, 0, 0)) (jU (jO (36, 0, 0, 0)) (jU (jO (35, 0, 0, 0)) (jU (jO (34, 0, 0, 0)) (jU (jO (33, 0, 0, 0)) (jU (jO (32, 0, 0, 0)) (jU (jO (31, 0, 0, 0)) (jU (jO (30, 0, 0, 0)) I)))))))))))))))) (33, 0, 0, 0) := Or.inr hI_n17
  replace hq_n21 := (hx65 _ hI_n21).trans hq_n21
  replace hI_n21 : (jU (jO (45, 0, 0, 0)) (jU (jO (44, 0, 0, 0)) (jU (jO (43, 0, 0, 0)) (jU (jO (42, 0, 0, 0)) (jU (jO (41, 0, 0, 0)) (jU (jO (40, 0, 0, 0)) (jU (jO (39, 0, 0, 0)) (jU (jO (38, 0, 0, 0)) (jU (jO (37, 0, 0, 0)) (jU (jO (36, 0, 0, 0)) (jU (jO (35, 0, 0, 0)) (jU (jO (34, 0, 0, 0)) (jU (jO (33, 0, 0, 0)) (jU (jO (32, 0, 0, 0)) (jU (jO (31, 0, 0, 0)) (jU (jO (30, 0, 0, 0)) I)))))))))))))))) (34, 0, 0, 0) := Or.inr hI_n21
  replace hq_n25 := (hx65 _ hI_n25).trans hq_n25
  replace hI_n25 : (jU (jO (45, 0, 0, 0)) (jU (jO (44, 0, 0, 0)) (jU (jO (43, 0, 0, 0)) (jU (jO (42, 0, 0, 0)) (jU (jO (41, 0, 0, 0)) (jU (jO (40, 0, 0, 0)) (jU (jO (39, 0, 0, 0)) (jU (jO (38, 0, 0, 0)) (jU (jO (37, 0, 0, 0)) (jU (jO (36, 0, 0, 0)) (jU (jO (35, 0, 0, 0)) (jU (jO (34, 0, 0, 0)) (jU (jO (33, 0, 0, 0)) (jU (jO (32, 0, 0, 0)) (jU (jO (31, 0, 0, 0)) (jU (jO (30, 0, 0, 0)) I)))))))))))))))) (35, 0, 0, 0) := Or.inr hI_n25
  replace hq_n29 := (hx65 _ hI_n29).trans hq_n29
  replace hI_n29 : (jU (jO (45, 0, 0, 0)) (jU (jO (44, 0, 0, 0)) (jU (jO (43, 0, 0, 0)) (jU (jO (42, 0, 0, 0)) (jU (jO (41, 0, 0, 0)) (jU (jO (40, 0, 0, 0)) (jU (jO (39, 0, 0, 0)) (jU (jO (38, 0, 0, 0)) (jU (jO (37, 0, 0, 0)) (jU (jO (36, 0, 0, 0)) (jU (jO (35, 0, 0, 0)) (jU (jO (34, 0, 0, 0)) (jU (jO (33, 0, 0, 0)) (jU (jO (32, 0, 0, 0)) (jU (jO (31, 0, 0, 0)) (jU (jO (30, 0, 0, 0)) I)))))))))))))))) (36, 0, 0, 0) := Or.inr hI_n29
  replace hq_n33 := (hx65 _ hI_n33).trans hq_n33
  replace hI_n33 : (jU (jO (45, 0, 0, 0)) (jU (jO (44, 0, 0, 0)) (jU (jO (43, 0, 0, 0)) (jU (jO (42, 0, 0, 0)) (jU (jO (41, 0, 0, 0)) (jU (jO (40, 0, 0, 0)) (jU (jO (39, 0, 0, 0)) (jU (jO (38, 0, 0, 0)) (jU (jO (37, 0, 0, 0)) (jU (jO (36, 0, 0, 0)) (jU (jO (35, 0, 0, 0)) (jU (jO (34, 0, 0, 0)) (jU (jO (33, 0, 0, 0)) (jU (jO (32, 0, 0, 0)) (jU (jO (31, 0, 0, 0)) (jU (jO (30, 0, 0, 0)) I)))))))))))))))) (37, 0, 0, 0) := Or.inr hI_n33
  replace hq_n37 := (hx65 _ hI_n37).trans hq_n37
  replace hI_n37 : (jU (jO (45, 0, 0, 0)) (jU (jO (44, 0, 0, 0)) (jU (jO (43, 0, 0, 0)) (jU (jO (42, 0, 0, 0)) (jU (jO (41, 0, 0, 0)) (jU (jO (40, 0, 0, 0)) (jU (jO (39, 0, 0, 0)) (jU (jO (38, 0, 0, 0)) (jU (jO (37, 0, 0, 0)) (jU (jO (36, 0, 0, 0)) (jU (jO (35, 0, 0, 0)) (jU (jO (34, 0, 0, 0)) (jU (jO (33, 0, 0, 0)) (jU (jO (32, 0, 0, 0)) (jU (jO (31, 0, 0, 0)) (jU (jO (30, 0, 0, 0)) I)))))))))))))))) (38, 0, 0, 0) := Or.inr hI_n37
  replace hq_n41 := (hx65 _ hI_n41).trans hq_n41
  replace hI_n41 : (jU (jO (45, 0, 0, 0)) (jU (jO (44, 0, 0, 0)) (jU (jO (43, 0, 0, 0)) (jU (jO (42, 0, 0, 0)) (jU (jO (41, 0, 0, 0)) (jU (jO (40, 0, 0, 0)) (jU (jO (39, 0, 0, 0)) (jU (jO (38, 0, 0, 0)) (jU (jO (37, 0, 0, 0)) (jU (jO (36, 0, 0, 0)) (jU (jO (35, 0, 0, 0)) (jU (jO (34, 0, 0, 0)) (jU (jO (33, 0, 0, 0)) (jU (jO (32, 0, 0, 0)) (jU (jO (31, 0, 0, 0)) (jU (jO (30, 0, 0, 0)) I)))))))))))))))) (39, 0, 0, 0) := Or.inr hI_n41
  replace hq_n45 := (hx65 _ hI_n45).trans hq_n45
  replace hI_n45 : (jU (jO (45, 0, 0, 0)) (jU (jO (44, 0, 0, 0)) (jU (jO (43, 0, 0, 0)) (jU (jO (42, 0, 0, 0)) (jU (jO (41, 0, 0, 0)) (jU (jO (40, 0, 0, 0)) (jU (jO (39, 0, 0, 0)) (jU (jO (38, 0, 0, 0)) (jU (jO (37, 0, 0, 0)) (jU (jO (36, 0, 0, 0)) (jU (jO (35, 0, 0, 0)) (jU (jO (34, 0, 0, 0)) (jU (jO (33, 0, 0, 0)) (jU (jO (32, 0, 0, 0)) (jU (jO (31, 0, 0, 0)) (jU (jO (30, 0, 0, 0)) I)))))))))))))))) (40, 0, 0, 0) := Or.inr hI_n45
  replace hq_n49 := (hx65 _ hI_n49).trans hq_n49
  replace hI_n49 : (jU (jO (45, 0, 0, 0)) (jU (jO (44, 0, 0, 0)) (jU (jO (43, 0, 0, 0)) (jU (jO (42, 0, 0, 0)) (jU (jO (41, 0, 0, 0)) (jU (jO (40, 0, 0, 0)) (jU (jO (39, 0, 0, 0)) (jU (jO (38, 0, 0, 0)) (jU (jO (37, 0, 0, 0)) (jU (jO (36, 0, 0, 0)) (jU (jO (35, 0, 0, 0)) (jU (jO (34, 0, 0, 0)) (jU (jO (33, 0, 0, 0)) (jU (jO (32, 0, 0, 0)) (jU (jO (31, 0, 0, 0)) (jU (jO (30, 0, 0, 0)) I)))))))))))))))) (41, 0, 0, 0) := Or.inr hI_n49
  replace hq_n53 := (hx65 _ hI_n53).trans hq_n53
  replace hI_n53 : (jU (jO (45, 0, 0, 0)) (jU (jO (44, 0, 0, 0)) (jU (jO (43, 0, 0, 0)) (jU (jO (42, 0, 0, 0)) (jU (jO (41, 0, 0, 0)) (jU (jO (40, 0, 0, 0)) (jU (jO (39, 0, 0, 0)) (jU (jO (38, 0, 0, 0)) (jU (jO (37, 0, 0, 0)) (jU (jO (36, 0, 0, 0)) (jU (jO (35, 0, 0, 0)) (jU (jO (34, 0, 0, 0)) (jU (jO (33, 0, 0, 0)) (jU (jO (32, 0, 0, 0)) (jU (jO (31, 0, 0, 0)) (jU (jO (30, 0, 0, 0)) I)))))))))))))))) (42, 0, 0, 0) := Or.inr hI_n53
  replace hq_n57 := (hx65 _ hI_n57).trans hq_n57
  replace hI_n57 : (jU (jO (45, 0, 0, 0)) (jU (jO (44, 0, 0, 0)) (jU (jO (43, 0, 0, 0)) (jU (jO (42, 0, 0, 0)) (jU (jO (41, 0, 0, 0)) (jU (jO (40, 0, 0, 0)) (jU (jO (39, 0, 0, 0)) (jU (jO (38, 0, 0, 0)) (jU (jO (37, 0, 0, 0)) (jU (jO (36, 0, 0, 0)) (jU (jO (35, 0, 0, 0)) (jU (jO (34, 0, 0, 0)) (jU (jO (33, 0, 0, 0)) (jU (jO (32, 0, 0, 0)) (jU (jO (31, 0, 0, 0)) (jU (jO (30, 0, 0, 0)) I)))))))))))))))) (43, 0, 0, 0) := Or.inr hI_n57
  replace hq_n61 := (hx65 _ hI_n61).trans hq_n61
  replace hI_n61 : (jU (jO (45, 0, 0, 0)) (jU (jO (44, 0, 0, 0)) (jU (jO (43, 0, 0, 0)) (jU (jO (42, 0, 0, 0)) (jU (jO (41, 0, 0, 0)) (jU (jO (40, 0, 0, 0)) (jU (jO (39, 0, 0, 0)) (jU (jO (38, 0, 0, 0)) (jU (jO (37, 0, 0, 0)) (jU (jO (36, 0, 0, 0)) (jU (jO (35, 0, 0, 0)) (jU (jO (34, 0, 0, 0)) (jU (jO (33, 0, 0, 0)) (jU (jO (32, 0, 0, 0)) (jU (jO (31, 0, 0, 0)) (jU (jO (30, 0, 0, 0)) I)))))))))))))))) (44, 0, 0, 0) := Or.inr hI_n61
  replace hxt : ∀ j, I j → ad65 j = ad j := fun j hj => (hx65 j (hup j hj)).trans (hxt j hj)
  replace hup : ∀ j, I j → (jU (jO (45, 0, 0, 0)) (jU (jO (44, 0, 0, 0)) (jU (jO (43, 0, 0, 0)) (jU (jO (42, 0, 0, 0)) (jU (jO (41, 0, 0, 0)) (jU (jO (40, 0, 0, 0)) (jU (jO (39, 0, 0, 0)) (jU (jO (38, 0, 0, 0)) (jU (jO (37, 0, 0, 0)) (jU (jO (36, 0, 0, 0)) (jU (jO (35, 0, 0, 0)) (jU (jO (34, 0, 0, 0)) (jU (jO (33, 0, 0, 0)) (jU (jO (32, 0, 0, 0)) (jU (jO (31, 0, 0, 0)) (jU (jO (30, 0, 0, 0)) I)))))))))))))))) j := fun j hj => Or.inr (hup j hj)
  replace hnw : ∀ j, (jU (jO (45, 0, 0, 0)) (jU (jO (44, 0, 0, 0)) (jU (jO (43, 0, 0, 0)) (jU (jO (42, 0, 0, 0)) (jU (jO (41, 0, 0, 0)) (jU (jO (40, 0, 0, 0)) (jU (jO (39, 0, 0, 0)) (jU (jO (38, 0, 0, 0)) (jU (jO (37, 0, 0, 0)) (jU (jO (36, 0, 0, 0)) (jU (jO (35, 0, 0, 0)) (jU (jO (34, 0, 0, 0)) (jU (jO (33, 0, 0, 0)) (jU (jO (32, 0, 0, 0)) (jU (jO (31, 0, 0, 0)) (jU (jO (30, 0, 0, 0)) I)))))))))))))))) j → ¬ I j → s.heap.size ≤ ad65 j := fun j hj hn => hj.elim (fun h => by have h : j = (45, 0, 0, 0) := h; rw [h, e65]; exact hz65) (fun h => by rw [hx65 j h]; exact hnw j h hn)
  have hI_n65 : (jU (jO (45, 0, 0, 0)) (jU (jO (44, 0, 0, 0)) (jU (jO (43, 0, 0, 0)) (jU (jO (42, 0, 0, 0)) (jU (jO (41, 0, 0, 0)) (jU (jO (40, 0, 0, 0)) (jU (jO (39, 0, 0, 0)) (jU (jO (38, 0, 0, 0)) (jU (jO (37, 0, 0, 0)) (jU (jO (36, 0, 0, 0)) (jU (jO (35, 0, 0, 0)) (jU (jO (34, 0, 0, 0)) (jU (jO (33, 0, 0, 0)) (jU (jO (32, 0, 0, 0)) (jU (jO (31, 0, 0, 0)) (jU (jO (30, 0, 0, 0)) I)))))))))))))))) (45, 0, 0, 0) := Or.inl rfl
  have hq_n65 := e65
  have hA_n65 : iA a s.heap.size q65 := Or.inr hz65
  refine pF_732 (pc := 132) C hin hP hS hI_t hI_n65 (Or.inl rfl) hq_t hq_n65 dX9_init_132 (fun H locs hP hS => ?_)
  refine lv_aload_n (pc := 135) hx hb dX9_init_135 rfl (lv_at hl 0 rfl) ?_
  refine lv_iconst (pc := 136) (v := (2 : Int32)) hx hb dX9_init_136 (by decide) ?_
  have hf69 : ∀ i, (jU (jO (45, 0, 0, 0)) (jU (jO (44, 0, 0, 0)) (jU (jO (43, 0, 0, 0)) (jU (jO (42, 0, 0, 0)) (jU (jO (41, 0, 0, 0)) (jU (jO (40, 0, 0, 0)) (jU (jO (39, 0, 0, 0)) (jU (jO (38, 0, 0, 0)) (jU (jO (37, 0, 0, 0)) (jU (jO (36, 0, 0, 0)) (jU (jO (35, 0, 0, 0)) (jU (jO (34, 0, 0, 0)) (jU (jO (33, 0, 0, 0)) (jU (jO (32, 0, 0, 0)) (jU (jO (31, 0, 0, 0)) (jU (jO (30, 0, 0, 0)) I)))))))))))))))) i → ¬ (jO (46, 0, 0, 0)) i := by
    intro i hi hJ
    have hJ2 : (jK 29 18) i := ⟨46, by decide, by decide, hJ⟩
    rcases hi with hi | hi | hi | hi | hi | hi | hi | hi | hi | hi | hi | hi | hi | hi | hi | hi | hi
    · have h1 := jO_r hi; have h2 := jO_r hJ; (try dsimp only at h1); (try dsimp only at h2); omega
    · have h1 := jO_r hi; have h2 := jO_r hJ; (try dsimp only at h1); (try dsimp only at h2); omega
    · have h1 := jO_r hi; have h2 := jO_r hJ; (try dsimp only at h1); (try dsimp only at h2); omega
    · have h1 := jO_r hi; have h2 := jO_r hJ; (try dsimp only at h1); (try dsimp only at h2); omega
    · have h1 := jO_r hi; have h2 := jO_r hJ; (try dsimp only at h1); (try dsimp only at h2); omega
    · have h1 := jO_r hi; have h2 := jO_r hJ; (try dsimp only at h1); (try dsimp only at h2); omega
    · have h1 := jO_r hi; have h2 := jO_r hJ; (try dsimp only at h1); (try dsimp only at h2); omega
    · have h1 := jO_r hi; have h2 := jO_r hJ; (try dsimp only at h1); (try dsimp only at h2); omega
    · have h1 := jO_r hi; have h2 := jO_r hJ; (try dsimp only at h1); (try dsimp only at h2); omega
    · have h1 := jO_r hi; have h2 := jO_r hJ; (try dsimp only at h1); (try dsimp only at h2); omega
    · have h1 := jO_r hi; have h2 := jO_r hJ; (try dsimp only at h1); (try dsimp only at h2); omega
    · have h1 := jO_r hi; have h2 := jO_r hJ; (try dsimp only at h1); (try dsimp only at h2); omega
    · have h1 := jO_r hi; have h2 := jO_r hJ; (try dsimp only at h1); (try dsimp only at h2); omega
    · have h1 := jO_r hi; have h2 := jO_r hJ; (try dsimp only at h1); (try dsimp only at h2); omega
    · have h1 := jO_r hi; have h2 := jO_r hJ; (try dsimp only at h1); (try dsimp only at h2); omega
    · have h1 := jO_r hi; have h2 := jO_r hJ; (try dsimp only at h1); (try dsimp only at h2); omega
    · have he := hfr i hi hJ2
      subst he
      simp [jO] at hJ
  refine r2_newZ (pc := 137)  (A := iA a s.heap.size) C hP hS (fun h => hf69 _ h rfl) mw_771 (by decide) (by decide) (Nat.le_of_ble_eq_true rfl) (Nat.le_of_ble_eq_true rfl) dX9_init_137 (fun q69 ad69 H e69 hx69 hz69 hP hS => ?_)
  replace hP := hP.toJ rfl rfl
  replace hq_t := (hx69 _ hI_t).trans hq_t
  replace hI_t : (jU (jO (46, 0, 0, 0)) (jU (jO (45, 0, 0, 0)) (jU (jO (44, 0, 0, 0)) (jU (jO (43, 0, 0, 0)) (jU (jO (42, 0, 0, 0)) (jU (jO (41, 0, 0, 0)) (jU (jO (40, 0, 0, 0)) (jU (jO (39, 0, 0, 0)) (jU (jO (38, 0, 0, 0)) (jU (jO (37, 0, 0, 0)) (jU (jO (36, 0, 0, 0)) (jU (jO (35, 0, 0, 0)) (jU (jO (34, 0, 0, 0)) (jU (jO (33, 0, 0, 0)) (jU (jO (32, 0, 0, 0)) (jU (jO (31, 0, 0, 0)) (jU (jO (30, 0, 0, 0)) I))))))))))))))))) (29, 0, 0, 0) := Or.inr hI_t
  replace hq_n5 := (hx69 _ hI_n5).trans hq_n5
  replace hI_n5 : (jU (jO (46, 0, 0, 0)) (jU (jO (45, 0, 0, 0)) (jU (jO (44, 0, 0, 0)) (jU (jO (43, 0, 0, 0)) (jU (jO (42, 0, 0, 0)) (jU (jO (41, 0, 0, 0)) (jU (jO (40, 0, 0, 0)) (jU (jO (39, 0, 0, 0)) (jU (jO (38, 0, 0, 0)) (jU (jO (37, 0, 0, 0)) (jU (jO (36, 0, 0, 0)) (jU (jO (35, 0, 0, 0)) (jU (jO (34, 0, 0, 0)) (jU (jO (33, 0, 0, 0)) (jU (jO (32, 0, 0, 0)) (jU (jO (31, 0, 0, 0)) (jU (jO (30, 0, 0, 0)) I))))))))))))))))) (30, 0, 0, 0) := Or.inr hI_n5
  replace hq_n9 := (hx69 _ hI_n9).trans hq_n9
  replace hI_n9 : (jU (jO (46, 0, 0, 0)) (jU (jO (45, 0, 0, 0)) (jU (jO (44, 0, 0, 0)) (jU (jO (43, 0, 0, 0)) (jU (jO (42, 0, 0, 0)) (jU (jO (41, 0, 0, 0)) (jU (jO (40, 0, 0, 0)) (jU (jO (39, 0, 0, 0)) (jU (jO (38, 0, 0, 0)) (jU (jO (37, 0, 0, 0)) (jU (jO (36, 0, 0, 0)) (jU (jO (35, 0, 0, 0)) (jU (jO (34, 0, 0, 0)) (jU (jO (33, 0, 0, 0)) (jU (jO (32, 0, 0, 0)) (jU (jO (31, 0, 0, 0)) (jU (jO (30, 0, 0, 0)) I))))))))))))))))) (31, 0, 0, 0) := Or.inr hI_n9
  replace hq_n13 := (hx69 _ hI_n13).trans hq_n13
  replace hI_n13 : (jU (jO (46, 0, 0, 0)) (jU (jO (45, 0, 0, 0)) (jU (jO (44, 0, 0, 0)) (jU (jO (43, 0, 0, 0)) (jU (jO (42, 0, 0, 0)) (jU (jO (41, 0, 0, 0)) (jU (jO (40, 0, 0, 0)) (jU (jO (39, 0, 0, 0)) (jU (jO (38, 0, 0, 0)) (jU (jO (37, 0, 0, 0)) (jU (jO (36, 0, 0, 0)) (jU (jO (35, 0, 0, 0)) (jU (jO (34, 0, 0, 0)) (jU (jO (33, 0, 0, 0)) (jU (jO (32, 0, 0, 0)) (jU (jO (31, 0, 0, 0)) (jU (jO (30, 0, 0, 0)) I))))))))))))))))) (32, 0, 0, 0) := Or.inr hI_n13
  replace hq_n17 := (hx69 _ hI_n17).trans hq_n17
  replace hI_n17 : (jU (jO (46, 0, 0, 0)) (jU (jO (45, 0, 0, 0)) (jU (jO (44, 0, 0, 0)) (jU (jO (43, 0, 0, 0)) (jU (jO (42, 0, 0, 0)) (jU (jO (41, 0, 0, 0)) (jU (jO (40, 0, 0, 0)) (jU (jO (39, 0, 0, 0)) (jU (jO (38, 0, 0, 0)) (jU (jO (37, 0, 0, 0)) (jU (jO (36, 0, 0, 0)) (jU (jO (35, 0, 0, 0)) (jU (jO (34, 0, 0, 0)) (jU (jO (33, 0, 0, 0)) (jU (jO (32, 0, 0, 0)) (jU (jO (31, 0, 0, 0)) (jU (jO (30, 0, 0, 0)) I))))))))))))))))) (33, 0, 0, 0) := Or.inr hI_n17
  replace hq_n21 := (hx69 _ hI_n21).trans hq_n21
  replace hI_n21 : (jU (jO (46, 0, 0, 0)) (jU (jO (45, 0, 0, 0)) (jU (jO (44, 0, 0, 0)) (jU (jO (43, 0, 0, 0)) (jU (jO (42, 0, 0, 0)) (jU (jO (41, 0, 0, 0)) (jU (jO (40, 0, 0, 0)) (jU (jO (39, 0, 0, 0)) (jU (jO (38, 0, 0, 0)) (jU (jO (37, 0, 0, 0)) (jU (jO (36, 0, 0, 0)) (jU (jO (35, 0, 0, 0)) (jU (jO (34, 0, 0, 0)) (jU (jO (33, 0, 0, 0)) (jU (jO (32, 0, 0, 0)) (jU (jO (31, 0, 0, 0)) (jU (jO (30, 0, 0, 0)) I))))))))))))))))) (34, 0, 0, 0) := Or.inr hI_n21
  replace hq_n25 := (hx69 _ hI_n25).trans hq_n25
  replace hI_n25 : (jU (jO (46, 0, 0, 0)) (jU (jO (45, 0, 0, 0)) (jU (jO (44, 0, 0, 0)) (jU (jO (43, 0, 0, 0)) (jU (jO (42, 0, 0, 0)) (jU (jO (41, 0, 0, 0)) (jU (jO (40, 0, 0, 0)) (jU (jO (39, 0, 0, 0)) (jU (jO (38, 0, 0, 0)) (jU (jO (37, 0, 0, 0)) (jU (jO (36, 0, 0, 0)) (jU (jO (35, 0, 0, 0)) (jU (jO (34, 0, 0, 0)) (jU (jO (33, 0, 0, 0)) (jU (jO (32, 0, 0, 0)) (jU (jO (31, 0, 0, 0)) (jU (jO (30, 0, 0, 0)) I))))))))))))))))) (35, 0, 0, 0) := Or.inr hI_n25
  replace hq_n29 := (hx69 _ hI_n29).trans hq_n29
  replace hI_n29 : (jU (jO (46, 0, 0, 0)) (jU (jO (45, 0, 0, 0)) (jU (jO (44, 0, 0, 0)) (jU (jO (43, 0, 0, 0)) (jU (jO (42, 0, 0, 0)) (jU (jO (41, 0, 0, 0)) (jU (jO (40, 0, 0, 0)) (jU (jO (39, 0, 0, 0)) (jU (jO (38, 0, 0, 0)) (jU (jO (37, 0, 0, 0)) (jU (jO (36, 0, 0, 0)) (jU (jO (35, 0, 0, 0)) (jU (jO (34, 0, 0, 0)) (jU (jO (33, 0, 0, 0)) (jU (jO (32, 0, 0, 0)) (jU (jO (31, 0, 0, 0)) (jU (jO (30, 0, 0, 0)) I))))))))))))))))) (36, 0, 0, 0) := Or.inr hI_n29
  replace hq_n33 := (hx69 _ hI_n33).trans hq_n33
  replace hI_n33 : (jU (jO (46, 0, 0, 0)) (jU (jO (45, 0, 0, 0)) (jU (jO (44, 0, 0, 0)) (jU (jO (43, 0, 0, 0)) (jU (jO (42, 0, 0, 0)) (jU (jO (41, 0, 0, 0)) (jU (jO (40, 0, 0, 0)) (jU (jO (39, 0, 0, 0)) (jU (jO (38, 0, 0, 0)) (jU (jO (37, 0, 0, 0)) (jU (jO (36, 0, 0, 0)) (jU (jO (35, 0, 0, 0)) (jU (jO (34, 0, 0, 0)) (jU (jO (33, 0, 0, 0)) (jU (jO (32, 0, 0, 0)) (jU (jO (31, 0, 0, 0)) (jU (jO (30, 0, 0, 0)) I))))))))))))))))) (37, 0, 0, 0) := Or.inr hI_n33
  replace hq_n37 := (hx69 _ hI_n37).trans hq_n37
  replace hI_n37 : (jU (jO (46, 0, 0, 0)) (jU (jO (45, 0, 0, 0)) (jU (jO (44, 0, 0, 0)) (jU (jO (43, 0, 0, 0)) (jU (jO (42, 0, 0, 0)) (jU (jO (41, 0, 0, 0)) (jU (jO (40, 0, 0, 0)) (jU (jO (39, 0, 0, 0)) (jU (jO (38, 0, 0, 0)) (jU (jO (37, 0, 0, 0)) (jU (jO (36, 0, 0, 0)) (jU (jO (35, 0, 0, 0)) (jU (jO (34, 0, 0, 0)) (jU (jO (33, 0, 0, 0)) (jU (jO (32, 0, 0, 0)) (jU (jO (31, 0, 0, 0)) (jU (jO (30, 0, 0, 0)) I))))))))))))))))) (38, 0, 0, 0) := Or.inr hI_n37
  replace hq_n41 := (hx69 _ hI_n41).trans hq_n41
  replace hI_n41 : (jU (jO (46, 0, 0, 0)) (jU (jO (45, 0, 0, 0)) (jU (jO (44, 0, 0, 0)) (jU (jO (43, 0, 0, 0)) (jU (jO (42, 0, 0, 0)) (jU (jO (41, 0, 0, 0)) (jU (jO (40, 0, 0, 0)) (jU (jO (39, 0, 0, 0)) (jU (jO (38, 0, 0, 0)) (jU (jO (37, 0, 0, 0)) (jU (jO (36, 0, 0, 0)) (jU (jO (35, 0, 0, 0)) (jU (jO (34, 0, 0, 0)) (jU (jO (33, 0, 0, 0)) (jU (jO (32, 0, 0, 0)) (jU (jO (31, 0, 0, 0)) (jU (jO (30, 0, 0, 0)) I))))))))))))))))) (39, 0, 0, 0) := Or.inr hI_n41
  replace hq_n45 := (hx69 _ hI_n45).trans hq_n45
  replace hI_n45 : (jU (jO (46, 0, 0, 0)) (jU (jO (45, 0, 0, 0)) (jU (jO (44, 0, 0, 0)) (jU (jO (43, 0, 0, 0)) (jU (jO (42, 0, 0, 0)) (jU (jO (41, 0, 0, 0)) (jU (jO (40, 0, 0, 0)) (jU (jO (39, 0, 0, 0)) (jU (jO (38, 0, 0, 0)) (jU (jO (37, 0, 0, 0)) (jU (jO (36, 0, 0, 0)) (jU (jO (35, 0, 0, 0)) (jU (jO (34, 0, 0, 0)) (jU (jO (33, 0, 0, 0)) (jU (jO (32, 0, 0, 0)) (jU (jO (31, 0, 0, 0)) (jU (jO (30, 0, 0, 0)) I))))))))))))))))) (40, 0, 0, 0) := Or.inr hI_n45
  replace hq_n49 := (hx69 _ hI_n49).trans hq_n49
  replace hI_n49 : (jU (jO (46, 0, 0, 0)) (jU (jO (45, 0, 0, 0)) (jU (jO (44, 0, 0, 0)) (jU (jO (43, 0, 0, 0)) (jU (jO (42, 0, 0, 0)) (jU (jO (41, 0, 0, 0)) (jU (jO (40, 0, 0, 0)) (jU (jO (39, 0, 0, 0)) (jU (jO (38, 0, 0, 0)) (jU (jO (37, 0, 0, 0)) (jU (jO (36, 0, 0, 0)) (jU (jO (35, 0, 0, 0)) (jU (jO (34, 0, 0, 0)) (jU (jO (33, 0, 0, 0)) (jU (jO (32, 0, 0, 0)) (jU (jO (31, 0, 0, 0)) (jU (jO (30, 0, 0, 0)) I))))))))))))))))) (41, 0, 0, 0) := Or.inr hI_n49
  replace hq_n53 := (hx69 _ hI_n53).trans hq_n53
  replace hI_n53 : (jU (jO (46, 0, 0, 0)) (jU (jO (45, 0, 0, 0)) (jU (jO (44, 0, 0, 0)) (jU (jO (43, 0, 0, 0)) (jU (jO (42, 0, 0, 0)) (jU (jO (41, 0, 0, 0)) (jU (jO (40, 0, 0, 0)) (jU (jO (39, 0, 0, 0)) (jU (jO (38, 0, 0, 0)) (jU (jO (37, 0, 0, 0)) (jU (jO (36, 0, 0, 0)) (jU (jO (35, 0, 0, 0)) (jU (jO (34, 0, 0, 0)) (jU (jO (33, 0, 0, 0)) (jU (jO (32, 0, 0, 0)) (jU (jO (31, 0, 0, 0)) (jU (jO (30, 0, 0, 0)) I))))))))))))))))) (42, 0, 0, 0) := Or.inr hI_n53
  replace hq_n57 := (hx69 _ hI_n57).trans hq_n57
  replace hI_n57 : (jU (jO (46, 0, 0, 0)) (jU (jO (45, 0, 0, 0)) (jU (jO (44, 0, 0, 0)) (jU (jO (43, 0, 0, 0)) (jU (jO (42, 0, 0, 0)) (jU (jO (41, 0, 0, 0)) (jU (jO (40, 0, 0, 0)) (jU (jO (39, 0, 0, 0)) (jU (jO (38, 0, 0, 0)) (jU (jO (37, 0, 0, 0)) (jU (jO (36, 0, 0, 0)) (jU (jO (35, 0, 0, 0)) (jU (jO (34, 0, 0, 0)) (jU (jO (33, 0, 0, 0)) (jU (jO (32, 0, 0, 0)) (jU (jO (31, 0, 0, 0)) (jU (jO (30, 0, 0, 0)) I))))))))))))))))) (43, 0, 0, 0) := Or.inr hI_n57
  replace hq_n61 := (hx69 _ hI_n61).trans hq_n61
  replace hI_n61 : (jU (jO (46, 0, 0, 0)) (jU (jO (45, 0, 0, 0)) (jU (jO (44, 0, 0, 0)) (jU (jO (43, 0, 0, 0)) (jU (jO (42, 0, 0, 0)) (jU (jO (41, 0, 0, 0)) (jU (jO (40, 0, 0, 0)) (jU (jO (39, 0, 0, 0)) (jU (jO (38, 0, 0, 0)) (jU (jO (37, 0, 0, 0)) (jU (jO (36, 0, 0, 0)) (jU (jO (35, 0, 0, 0)) (jU (jO (34, 0, 0, 0)) (jU (jO (33, 0, 0, 0)) (jU (jO (32, 0, 0, 0)) (jU (jO (31, 0, 0, 0)) (jU (jO (30, 0, 0, 0)) I))))))))))))))))) (44, 0, 0, 0) := Or.inr hI_n61
  replace hq_n65 := (hx69 _ hI_n65).trans hq_n65
  replace hI_n65 : (jU (jO (46, 0, 0, 0)) (jU (jO (45, 0, 0, 0)) (jU (jO (44, 0, 0, 0)) (jU (jO (43, 0, 0, 0)) (jU (jO (42, 0, 0, 0)) (jU (jO (41, 0, 0, 0)) (jU (jO (40, 0, 0, 0)) (jU (jO (39, 0, 0, 0)) (jU (jO (38, 0, 0, 0)) (jU (jO (37, 0, 0, 0)) (jU (jO (36, 0, 0, 0)) (jU (jO (35, 0, 0, 0)) (jU (jO (34, 0, 0, 0)) (jU (jO (33, 0, 0, 0)) (jU (jO (32, 0, 0, 0)) (jU (jO (31, 0, 0, 0)) (jU (jO (30, 0, 0, 0)) I))))))))))))))))) (45, 0, 0, 0) := Or.inr hI_n65
  replace hxt : ∀ j, I j → ad69 j = ad j := fun j hj => (hx69 j (hup j hj)).trans (hxt j hj)
  replace hup : ∀ j, I j → (jU (jO (46, 0, 0, 0)) (jU (jO (45, 0, 0, 0)) (jU (jO (44, 0, 0, 0)) (jU (jO (43, 0, 0, 0)) (jU (jO (42, 0, 0, 0)) (jU (jO (41, 0, 0, 0)) (jU (jO (40, 0, 0, 0)) (jU (jO (39, 0, 0, 0)) (jU (jO (38, 0, 0, 0)) (jU (jO (37, 0, 0, 0)) (jU (jO (36, 0, 0, 0)) (jU (jO (35, 0, 0, 0)) (jU (jO (34, 0, 0, 0)) (jU (jO (33, 0, 0, 0)) (jU (jO (32, 0, 0, 0)) (jU (jO (31, 0, 0, 0)) (jU (jO (30, 0, 0, 0)) I))))))))))))))))) j := fun j hj => Or.inr (hup j hj)
  replace hnw : ∀ j, (jU (jO (46, 0, 0, 0)) (jU (jO (45, 0, 0, 0)) (jU (jO (44, 0, 0, 0)) (jU (jO (43, 0, 0, 0)) (jU (jO (42, 0, 0, 0)) (jU (jO (41, 0, 0, 0)) (jU (jO (40, 0, 0, 0)) (jU (jO (39, 0, 0, 0)) (jU (jO (38, 0, 0, 0)) (jU (jO (37, 0, 0, 0)) (jU (jO (36, 0, 0, 0)) (jU (jO (35, 0, 0, 0)) (jU (jO (34, 0, 0, 0)) (jU (jO (33, 0, 0, 0)) (jU (jO (32, 0, 0, 0)) (jU (jO (31, 0, 0, 0)) (jU (jO (30, 0, 0, 0)) I))))))))))))))))) j → ¬ I j → s.heap.size ≤ ad69 j := fun j hj hn => hj.elim (fun h => by have h : j = (46, 0, 0, 0) := h; rw [h, e69]; exact hz69) (fun h => by rw [hx69 j h]; exact hnw j h hn)
  have hI_n69 : (jU (jO (46, 0, 0, 0)) (jU (jO (45, 0, 0, 0)) (jU (jO (44, 0, 0, 0)) (jU (jO (43, 0, 0, 0)) (jU (jO (42, 0, 0, 0)) (jU (jO (41, 0, 0, 0)) (jU (jO (40, 0, 0, 0)) (jU (jO (39, 0, 0, 0)) (jU (jO (38, 0, 0, 0)) (jU (jO (37, 0, 0, 0)) (jU (jO (36, 0, 0, 0)) (jU (jO (35, 0, 0, 0)) (jU (jO (34, 0, 0, 0)) (jU (jO (33, 0, 0, 0)) (jU (jO (32, 0, 0, 0)) (jU (jO (31, 0, 0, 0)) (jU (jO (30, 0, 0, 0)) I))))))))))))))))) (46, 0, 0, 0) := Or.inl rfl
  have hq_n69 := e69
  have hA_n69 : iA a s.heap.size q69 := Or.inr hz69
  refine pF_733 (pc := 139) C hin hP hS hI_t hI_n69 (Or.inl rfl) hq_t hq_n69 dX9_init_139 (fun H locs hP hS => ?_)
  refine lv_iconst (pc := 142) (v := (0 : Int32)) hx hb dX9_init_142 (by decide) ?_
  refine lv_istore_n (pc := 143) (lv' := [(1, .int (0 : Int32)), (0, .ref a)]) hx hb dX9_init_143 rfl hl (by decide) rfl (fun ls hl => ?_)
  have hMr : (jM (jO (46, 0, 0, 0)) (jM (jO (45, 0, 0, 0)) (jM (jO (44, 0, 0, 0)) (jM (jO (43, 0, 0, 0)) (jM (jO (42, 0, 0, 0)) (jM (jO (41, 0, 0, 0)) (jM (jO (40, 0, 0, 0)) (jM (jO (39, 0, 0, 0)) (jM (jO (38, 0, 0, 0)) (jM (jO (37, 0, 0, 0)) (jM (jO (36, 0, 0, 0)) (jM (jO (35, 0, 0, 0)) (jM (jO (34, 0, 0, 0)) (jM (jO (33, 0, 0, 0)) (mr (jM (jO (31, 0, 0, 0)) (jM (jO (30, 0, 0, 0)) M)) (32, 0, 0, 0) (fun _ => 0)))))))))))))))).1 (29, 0, 0, 0) = fun _ => 0 := by
    simp [jM, jO, mr, cif_false, hM0]
  have hFr : (fu (jF (jO (46, 0, 0, 0)) (fu (jF (jO (45, 0, 0, 0)) (fu (jF (jO (44, 0, 0, 0)) (fu (jF (jO (43, 0, 0, 0)) (fu (jF (jO (42, 0, 0, 0)) (fu (jF (jO (41, 0, 0, 0)) (fu (jF (jO (40, 0, 0, 0)) (fu (jF (jO (39, 0, 0, 0)) (fu (jF (jO (38, 0, 0, 0)) (fu (jF (jO (37, 0, 0, 0)) (fu (jF (jO (36, 0, 0, 0)) (fu (jF (jO (35, 0, 0, 0)) (fu (jF (jO (34, 0, 0, 0)) (fu (jF (jO (33, 0, 0, 0)) (fu (jF (jO (32, 0, 0, 0)) (fu (jF (jO (31, 0, 0, 0)) (fu (jF (jO (30, 0, 0, 0)) F) (29, 0, 0, 0) 0 (30, 0, 0, 0))) (29, 0, 0, 0) 1 (31, 0, 0, 0))) (29, 0, 0, 0) 2 (32, 0, 0, 0))) (29, 0, 0, 0) 3 (33, 0, 0, 0))) (29, 0, 0, 0) 5 (34, 0, 0, 0))) (29, 0, 0, 0) 6 (35, 0, 0, 0))) (29, 0, 0, 0) 7 (36, 0, 0, 0))) (29, 0, 0, 0) 8 (37, 0, 0, 0))) (29, 0, 0, 0) 9 (38, 0, 0, 0))) (29, 0, 0, 0) 10 (39, 0, 0, 0))) (29, 0, 0, 0) 11 (40, 0, 0, 0))) (29, 0, 0, 0) 12 (41, 0, 0, 0))) (29, 0, 0, 0) 13 (42, 0, 0, 0))) (29, 0, 0, 0) 14 (43, 0, 0, 0))) (29, 0, 0, 0) 15 (44, 0, 0, 0))) (29, 0, 0, 0) 16 (45, 0, 0, 0))) (29, 0, 0, 0) 17 (46, 0, 0, 0)) (29, 0, 0, 0) = f0 (29, 0, 0, 0) := fr_X9 hF0
  have hS0 : ∀ j, (jK 29 18) j → (jU (jO (46, 0, 0, 0)) (jU (jO (45, 0, 0, 0)) (jU (jO (44, 0, 0, 0)) (jU (jO (43, 0, 0, 0)) (jU (jO (42, 0, 0, 0)) (jU (jO (41, 0, 0, 0)) (jU (jO (40, 0, 0, 0)) (jU (jO (39, 0, 0, 0)) (jU (jO (38, 0, 0, 0)) (jU (jO (37, 0, 0, 0)) (jU (jO (36, 0, 0, 0)) (jU (jO (35, 0, 0, 0)) (jU (jO (34, 0, 0, 0)) (jU (jO (33, 0, 0, 0)) (jU (jO (32, 0, 0, 0)) (jU (jO (31, 0, 0, 0)) (jU (jO (30, 0, 0, 0)) I))))))))))))))))) j ∧ iA a s.heap.size (ad69 j) := by
    intro j hj
    obtain ⟨k, h1, h2, rfl⟩ := hj
    rcases (show k = 29 ∨ k = 30 ∨ k = 31 ∨ k = 32 ∨ k = 33 ∨ k = 34 ∨ k = 35 ∨ k = 36 ∨ k = 37 ∨ k = 38 ∨ k = 39 ∨ k = 40 ∨ k = 41 ∨ k = 42 ∨ k = 43 ∨ k = 44 ∨ k = 45 ∨ k = 46 by omega) with rfl | rfl | rfl | rfl | rfl | rfl | rfl | rfl | rfl | rfl | rfl | rfl | rfl | rfl | rfl | rfl | rfl | rfl
    · exact ⟨hI_t, by rw [hq_t]; exact (Or.inl rfl)⟩
    · exact ⟨hI_n5, by rw [hq_n5]; exact hA_n5⟩
    · exact ⟨hI_n9, by rw [hq_n9]; exact hA_n9⟩
    · exact ⟨hI_n13, by rw [hq_n13]; exact hA_n13⟩
    · exact ⟨hI_n17, by rw [hq_n17]; exact hA_n17⟩
    · exact ⟨hI_n21, by rw [hq_n21]; exact hA_n21⟩
    · exact ⟨hI_n25, by rw [hq_n25]; exact hA_n25⟩
    · exact ⟨hI_n29, by rw [hq_n29]; exact hA_n29⟩
    · exact ⟨hI_n33, by rw [hq_n33]; exact hA_n33⟩
    · exact ⟨hI_n37, by rw [hq_n37]; exact hA_n37⟩
    · exact ⟨hI_n41, by rw [hq_n41]; exact hA_n41⟩
    · exact ⟨hI_n45, by rw [hq_n45]; exact hA_n45⟩
    · exact ⟨hI_n49, by rw [hq_n49]; exact hA_n49⟩
    · exact ⟨hI_n53, by rw [hq_n53]; exact hA_n53⟩
    · exact ⟨hI_n57, by rw [hq_n57]; exact hA_n57⟩
    · exact ⟨hI_n61, by rw [hq_n61]; exact hA_n61⟩
    · exact ⟨hI_n65, by rw [hq_n65]; exact hA_n65⟩
    · exact ⟨hI_n69, by rw [hq_n69]; exact hA_n69⟩
  have hst0 : ∀ (M1 : Mem) j, (jK 29 18) j → p2 G j (M1.1 j) M1.2 (adr ad69 ((fu (jF (jO (46, 0, 0, 0)) (fu (jF (jO (45, 0, 0, 0)) (fu (jF (jO (44, 0, 0, 0)) (fu (jF (jO (43, 0, 0, 0)) (fu (jF (jO (42, 0, 0, 0)) (fu (jF (jO (41, 0, 0, 0)) (fu (jF (jO (40, 0, 0, 0)) (fu (jF (jO (39, 0, 0, 0)) (fu (jF (jO (38, 0, 0, 0)) (fu (jF (jO (37, 0, 0, 0)) (fu (jF (jO (36, 0, 0, 0)) (fu (jF (jO (35, 0, 0, 0)) (fu (jF (jO (34, 0, 0, 0)) (fu (jF (jO (33, 0, 0, 0)) (fu (jF (jO (32, 0, 0, 0)) (fu (jF (jO (31, 0, 0, 0)) (fu (jF (jO (30, 0, 0, 0)) F) (29, 0, 0, 0) 0 (30, 0, 0, 0))) (29, 0, 0, 0) 1 (31, 0, 0, 0))) (29, 0, 0, 0) 2 (32, 0, 0, 0))) (29, 0, 0, 0) 3 (33, 0, 0, 0))) (29, 0, 0, 0) 5 (34, 0, 0, 0))) (29, 0, 0, 0) 6 (35, 0, 0, 0))) (29, 0, 0, 0) 7 (36, 0, 0, 0))) (29, 0, 0, 0) 8 (37, 0, 0, 0))) (29, 0, 0, 0) 9 (38, 0, 0, 0))) (29, 0, 0, 0) 10 (39, 0, 0, 0))) (29, 0, 0, 0) 11 (40, 0, 0, 0))) (29, 0, 0, 0) 12 (41, 0, 0, 0))) (29, 0, 0, 0) 13 (42, 0, 0, 0))) (29, 0, 0, 0) 14 (43, 0, 0, 0))) (29, 0, 0, 0) 15 (44, 0, 0, 0))) (29, 0, 0, 0) 16 (45, 0, 0, 0))) (29, 0, 0, 0) 17 (46, 0, 0, 0)) j)) = pic G ad69 M1 j := by
    intro M1 j hj
    obtain ⟨k, h1, h2, rfl⟩ := hj
    rcases (show k = 29 ∨ k = 30 ∨ k = 31 ∨ k = 32 ∨ k = 33 ∨ k = 34 ∨ k = 35 ∨ k = 36 ∨ k = 37 ∨ k = 38 ∨ k = 39 ∨ k = 40 ∨ k = 41 ∨ k = 42 ∨ k = 43 ∨ k = 44 ∨ k = 45 ∨ k = 46 by omega) with rfl | rfl | rfl | rfl | rfl | rfl | rfl | rfl | rfl | rfl | rfl | rfl | rfl | rfl | rfl | rfl | rfl | rfl
    · rw [hFr]; exact p2_f0 G _ _ _ _ (by decide)
    · rfl
    · rfl
    · rfl
    · rfl
    · rfl
    · rfl
    · rfl
    · rfl
    · rfl
    · rfl
    · rfl
    · rfl
    · rfl
    · rfl
    · rfl
    · rfl
    · rfl
  have key : ∀ (n k : Nat), k + n = 24 → ∀ (H : Heap) (locs : List Loc) (ls : Array Slot), w2 G (jU (jO (46, 0, 0, 0)) (jU (jO (45, 0, 0, 0)) (jU (jO (44, 0, 0, 0)) (jU (jO (43, 0, 0, 0)) (jU (jO (42, 0, 0, 0)) (jU (jO (41, 0, 0, 0)) (jU (jO (40, 0, 0, 0)) (jU (jO (39, 0, 0, 0)) (jU (jO (38, 0, 0, 0)) (jU (jO (37, 0, 0, 0)) (jU (jO (36, 0, 0, 0)) (jU (jO (35, 0, 0, 0)) (jU (jO (34, 0, 0, 0)) (jU (jO (33, 0, 0, 0)) (jU (jO (32, 0, 0, 0)) (jU (jO (31, 0, 0, 0)) (jU (jO (30, 0, 0, 0)) I))))))))))))))))) ad69 (clrs (jM (jO (46, 0, 0, 0)) (jM (jO (45, 0, 0, 0)) (jM (jO (44, 0, 0, 0)) (jM (jO (43, 0, 0, 0)) (jM (jO (42, 0, 0, 0)) (jM (jO (41, 0, 0, 0)) (jM (jO (40, 0, 0, 0)) (jM (jO (39, 0, 0, 0)) (jM (jO (38, 0, 0, 0)) (jM (jO (37, 0, 0, 0)) (jM (jO (36, 0, 0, 0)) (jM (jO (35, 0, 0, 0)) (jM (jO (34, 0, 0, 0)) (jM (jO (33, 0, 0, 0)) (mr (jM (jO (31, 0, 0, 0)) (jM (jO (30, 0, 0, 0)) M)) (32, 0, 0, 0) (fun _ => 0)))))))))))))))) k) (fu (jF (jO (46, 0, 0, 0)) (fu (jF (jO (45, 0, 0, 0)) (fu (jF (jO (44, 0, 0, 0)) (fu (jF (jO (43, 0, 0, 0)) (fu (jF (jO (42, 0, 0, 0)) (fu (jF (jO (41, 0, 0, 0)) (fu (jF (jO (40, 0, 0, 0)) (fu (jF (jO (39, 0, 0, 0)) (fu (jF (jO (38, 0, 0, 0)) (fu (jF (jO (37, 0, 0, 0)) (fu (jF (jO (36, 0, 0, 0)) (fu (jF (jO (35, 0, 0, 0)) (fu (jF (jO (34, 0, 0, 0)) (fu (jF (jO (33, 0, 0, 0)) (fu (jF (jO (32, 0, 0, 0)) (fu (jF (jO (31, 0, 0, 0)) (fu (jF (jO (30, 0, 0, 0)) F) (29, 0, 0, 0) 0 (30, 0, 0, 0))) (29, 0, 0, 0) 1 (31, 0, 0, 0))) (29, 0, 0, 0) 2 (32, 0, 0, 0))) (29, 0, 0, 0) 3 (33, 0, 0, 0))) (29, 0, 0, 0) 5 (34, 0, 0, 0))) (29, 0, 0, 0) 6 (35, 0, 0, 0))) (29, 0, 0, 0) 7 (36, 0, 0, 0))) (29, 0, 0, 0) 8 (37, 0, 0, 0))) (29, 0, 0, 0) 9 (38, 0, 0, 0))) (29, 0, 0, 0) 10 (39, 0, 0, 0))) (29, 0, 0, 0) 11 (40, 0, 0, 0))) (29, 0, 0, 0) 12 (41, 0, 0, 0))) (29, 0, 0, 0) 13 (42, 0, 0, 0))) (29, 0, 0, 0) 14 (43, 0, 0, 0))) (29, 0, 0, 0) 15 (44, 0, 0, 0))) (29, 0, 0, 0) 16 (45, 0, 0, 0))) (29, 0, 0, 0) 17 (46, 0, 0, 0)) H → va_S (iA a s.heap.size) s.heap H locs → lv_has ls 2 [(1, .int (nI k)), (0, .ref a)] → W p l e rmI_X9 s m [Value.ref a].toArray below meth c H locs (0 + 1 + 1 + 1 + 1 + 1 + 1 + 1 + 1 + 1 + 1 + 1 + 1 + 1 + 1 + 1 + 1 + 1) (0 + 192 + 6 + 288 + 12 + 60 + 60 + 60 + 60 + 60 + 200 + 60 + 4 + 60 + 60 + 60 + 1000 + 2) (MQ below (iQ G I ad (jU (jK 29 18) I) (jM (jK 29 18) M) (jF (jK 29 18) F) a s.heap.size) [Value.ref a].toArray s 17 2244 (iA a s.heap.size)) (F0 m 144 ls []) := by
    intro n
    induction n with
    | zero =>
      intro k hk H locs ls hP hS hl
      have hk : k = 24 := by omega
      subst hk
      refine lv_iload_n (pc := 144) hx hb dX9_init_144 rfl (lv_at hl 0 rfl) ?_
      refine lv_bipush (pc := 145) (v := (24 : Int32)) hx hb dX9_init_145 (by decide) ?_
      refine lv_icmp_ge (pc := 147) (tgt := 161) hx hb dX9_init_147 (by decide) (fun _ => ?_) (fun h => absurd (by decide) h)
      have hIf : ∀ j, jU (jK 29 18) I j ↔ (jU (jO (46, 0, 0, 0)) (jU (jO (45, 0, 0, 0)) (jU (jO (44, 0, 0, 0)) (jU (jO (43, 0, 0, 0)) (jU (jO (42, 0, 0, 0)) (jU (jO (41, 0, 0, 0)) (jU (jO (40, 0, 0, 0)) (jU (jO (39, 0, 0, 0)) (jU (jO (38, 0, 0, 0)) (jU (jO (37, 0, 0, 0)) (jU (jO (36, 0, 0, 0)) (jU (jO (35, 0, 0, 0)) (jU (jO (34, 0, 0, 0)) (jU (jO (33, 0, 0, 0)) (jU (jO (32, 0, 0, 0)) (jU (jO (31, 0, 0, 0)) (jU (jO (30, 0, 0, 0)) I))))))))))))))))) j := by
        intro j
        constructor
        · rintro (hj | hj)
          · skip
            obtain ⟨k, h1, h2, rfl⟩ := hj
            rcases (show k = 29 ∨ k = 30 ∨ k = 31 ∨ k = 32 ∨ k = 33 ∨ k = 34 ∨ k = 35 ∨ k = 36 ∨ k = 37 ∨ k = 38 ∨ k = 39 ∨ k = 40 ∨ k = 41 ∨ k = 42 ∨ k = 43 ∨ k = 44 ∨ k = 45 ∨ k = 46 by omega) with rfl | rfl | rfl | rfl | rfl | rfl | rfl | rfl | rfl | rfl | rfl | rfl | rfl | rfl | rfl | rfl | rfl | rfl
            · exact hup _ hroot
            · exact (Or.inr (Or.inr (Or.inr (Or.inr (Or.inr (Or.inr (Or.inr (Or.inr (Or.inr (Or.inr (Or.inr (Or.inr (Or.inr (Or.inr (Or.inr (Or.inr (Or.inl rfl)))))))))))))))))
            · exact (Or.inr (Or.inr (Or.inr (Or.inr (Or.inr (Or.inr (Or.inr (Or.inr (Or.inr (Or.inr (Or.inr (Or.inr (Or.inr (Or.inr (Or.inr (Or.inl rfl))))))))))))))))
            · exact (Or.inr (Or.inr (Or.inr (Or.inr (Or.inr (Or.inr (Or.inr (Or.inr (Or.inr (Or.inr (Or.inr (Or.inr (Or.inr (Or.inr (Or.inl rfl)))))))))))))))
            · exact (Or.inr (Or.inr (Or.inr (Or.inr (Or.inr (Or.inr (Or.inr (Or.inr (Or.inr (Or.inr (Or.inr (Or.inr (Or.inr (Or.inl rfl))))))))))))))
            · exact (Or.inr (Or.inr (Or.inr (Or.inr (Or.inr (Or.inr (Or.inr (Or.inr (Or.inr (Or.inr (Or.inr (Or.inr (Or.inl rfl)))))))))))))
            · exact (Or.inr (Or.inr (Or.inr (Or.inr (Or.inr (Or.inr (Or.inr (Or.inr (Or.inr (Or.inr (Or.inr (Or.inl rfl))))))))))))
            · exact (Or.inr (Or.inr (Or.inr (Or.inr (Or.inr (Or.inr (Or.inr (Or.inr (Or.inr (Or.inr (Or.inl rfl)))))))))))
            · exact (Or.inr (Or.inr (Or.inr (Or.inr (Or.inr (Or.inr (Or.inr (Or.inr (Or.inr (Or.inl rfl))))))))))
            · exact (Or.inr (Or.inr (Or.inr (Or.inr (Or.inr (Or.inr (Or.inr (Or.inr (Or.inl rfl)))))))))
            · exact (Or.inr (Or.inr (Or.inr (Or.inr (Or.inr (Or.inr (Or.inr (Or.inl rfl))))))))
            · exact (Or.inr (Or.inr (Or.inr (Or.inr (Or.inr (Or.inr (Or.inl rfl)))))))
            · exact (Or.inr (Or.inr (Or.inr (Or.inr (Or.inr (Or.inl rfl))))))
            · exact (Or.inr (Or.inr (Or.inr (Or.inr (Or.inl rfl)))))
            · exact (Or.inr (Or.inr (Or.inr (Or.inl rfl))))
            · exact (Or.inr (Or.inr (Or.inl rfl)))
            · exact (Or.inr (Or.inl rfl))
            · exact (Or.inl rfl)
          · exact hup j hj
        · rintro (hj | hj | hj | hj | hj | hj | hj | hj | hj | hj | hj | hj | hj | hj | hj | hj | hj | hj)
          · exact Or.inl ⟨46, by decide, by decide, hj⟩
          · exact Or.inl ⟨45, by decide, by decide, hj⟩
          · exact Or.inl ⟨44, by decide, by decide, hj⟩
          · exact Or.inl ⟨43, by decide, by decide, hj⟩
          · exact Or.inl ⟨42, by decide, by decide, hj⟩
          · exact Or.inl ⟨41, by decide, by decide, hj⟩
          · exact Or.inl ⟨40, by decide, by decide, hj⟩
          · exact Or.inl ⟨39, by decide, by decide, hj⟩
          · exact Or.inl ⟨38, by decide, by decide, hj⟩
          · exact Or.inl ⟨37, by decide, by decide, hj⟩
          · exact Or.inl ⟨36, by decide, by decide, hj⟩
          · exact Or.inl ⟨35, by decide, by decide, hj⟩
          · exact Or.inl ⟨34, by decide, by decide, hj⟩
          · exact Or.inl ⟨33, by decide, by decide, hj⟩
          · exact Or.inl ⟨32, by decide, by decide, hj⟩
          · exact Or.inl ⟨31, by decide, by decide, hj⟩
          · exact Or.inl ⟨30, by decide, by decide, hj⟩
          · exact Or.inr hj
      have hMf : ∀ j, (jK 29 18) j → (clrs (jM (jO (46, 0, 0, 0)) (jM (jO (45, 0, 0, 0)) (jM (jO (44, 0, 0, 0)) (jM (jO (43, 0, 0, 0)) (jM (jO (42, 0, 0, 0)) (jM (jO (41, 0, 0, 0)) (jM (jO (40, 0, 0, 0)) (jM (jO (39, 0, 0, 0)) (jM (jO (38, 0, 0, 0)) (jM (jO (37, 0, 0, 0)) (jM (jO (36, 0, 0, 0)) (jM (jO (35, 0, 0, 0)) (jM (jO (34, 0, 0, 0)) (jM (jO (33, 0, 0, 0)) (mr (jM (jO (31, 0, 0, 0)) (jM (jO (30, 0, 0, 0)) M)) (32, 0, 0, 0) (fun _ => 0)))))))))))))))) 24).1 j = m0 j := by
        intro j hj
        obtain ⟨k, h1, h2, rfl⟩ := hj
        rcases (show k = 29 ∨ k = 30 ∨ k = 31 ∨ k = 32 ∨ k = 33 ∨ k = 34 ∨ k = 35 ∨ k = 36 ∨ k = 37 ∨ k = 38 ∨ k = 39 ∨ k = 40 ∨ k = 41 ∨ k = 42 ∨ k = 43 ∨ k = 44 ∨ k = 45 ∨ k = 46 by omega) with rfl | rfl | rfl | rfl | rfl | rfl | rfl | rfl | rfl | rfl | rfl | rfl | rfl | rfl | rfl | rfl | rfl | rfl
        · first | (unfold clrs; rw [mr_ne _ _ (by simp)]; simp [jM, jO, mr, cif_true, cif_false, m0, hM0]; done) | (unfold clrs; rw [mr_at]; funext q; simp [jM, jO, mr, cif_true, cif_false, m0]; grind)
        · first | (unfold clrs; rw [mr_ne _ _ (by simp)]; simp [jM, jO, mr, cif_true, cif_false, m0, hM0]; done) | (unfold clrs; rw [mr_at]; funext q; simp [jM, jO, mr, cif_true, cif_false, m0]; grind)
        · first | (unfold clrs; rw [mr_ne _ _ (by simp)]; simp [jM, jO, mr, cif_true, cif_false, m0, hM0]; done) | (unfold clrs; rw [mr_at]; funext q; simp [jM, jO, mr, cif_true, cif_false, m0]; grind)
        · first | (unfold clrs; rw [mr_ne _ _ (by simp)]; simp [jM, jO, mr, cif_true, cif_false, m0, hM0]; done) | (unfold clrs; rw [mr_at]; funext q; simp [jM, jO, mr, cif_true, cif_false, m0]; grind)
        · first | (unfold clrs; rw [mr_ne _ _ (by simp)]; simp [jM, jO, mr, cif_true, cif_false, m0, hM0]; done) | (unfold clrs; rw [mr_at]; funext q; simp [jM, jO, mr, cif_true, cif_false, m0]; grind)
        · first | (unfold clrs; rw [mr_ne _ _ (by simp)]; simp [jM, jO, mr, cif_true, cif_false, m0, hM0]; done) | (unfold clrs; rw [mr_at]; funext q; simp [jM, jO, mr, cif_true, cif_false, m0]; grind)
        · first | (unfold clrs; rw [mr_ne _ _ (by simp)]; simp [jM, jO, mr, cif_true, cif_false, m0, hM0]; done) | (unfold clrs; rw [mr_at]; funext q; simp [jM, jO, mr, cif_true, cif_false, m0]; grind)
        · first | (unfold clrs; rw [mr_ne _ _ (by simp)]; simp [jM, jO, mr, cif_true, cif_false, m0, hM0]; done) | (unfold clrs; rw [mr_at]; funext q; simp [jM, jO, mr, cif_true, cif_false, m0]; grind)
        · first | (unfold clrs; rw [mr_ne _ _ (by simp)]; simp [jM, jO, mr, cif_true, cif_false, m0, hM0]; done) | (unfold clrs; rw [mr_at]; funext q; simp [jM, jO, mr, cif_true, cif_false, m0]; grind)
        · first | (unfold clrs; rw [mr_ne _ _ (by simp)]; simp [jM, jO, mr, cif_true, cif_false, m0, hM0]; done) | (unfold clrs; rw [mr_at]; funext q; simp [jM, jO, mr, cif_true, cif_false, m0]; grind)
        · first | (unfold clrs; rw [mr_ne _ _ (by simp)]; simp [jM, jO, mr, cif_true, cif_false, m0, hM0]; done) | (unfold clrs; rw [mr_at]; funext q; simp [jM, jO, mr, cif_true, cif_false, m0]; grind)
        · first | (unfold clrs; rw [mr_ne _ _ (by simp)]; simp [jM, jO, mr, cif_true, cif_false, m0, hM0]; done) | (unfold clrs; rw [mr_at]; funext q; simp [jM, jO, mr, cif_true, cif_false, m0]; grind)
        · first | (unfold clrs; rw [mr_ne _ _ (by simp)]; simp [jM, jO, mr, cif_true, cif_false, m0, hM0]; done) | (unfold clrs; rw [mr_at]; funext q; simp [jM, jO, mr, cif_true, cif_false, m0]; grind)
        · first | (unfold clrs; rw [mr_ne _ _ (by simp)]; simp [jM, jO, mr, cif_true, cif_false, m0, hM0]; done) | (unfold clrs; rw [mr_at]; funext q; simp [jM, jO, mr, cif_true, cif_false, m0]; grind)
        · first | (unfold clrs; rw [mr_ne _ _ (by simp)]; simp [jM, jO, mr, cif_true, cif_false, m0, hM0]; done) | (unfold clrs; rw [mr_at]; funext q; simp [jM, jO, mr, cif_true, cif_false, m0]; grind)
        · first | (unfold clrs; rw [mr_ne _ _ (by simp)]; simp [jM, jO, mr, cif_true, cif_false, m0, hM0]; done) | (unfold clrs; rw [mr_at]; funext q; simp [jM, jO, mr, cif_true, cif_false, m0]; grind)
        · first | (unfold clrs; rw [mr_ne _ _ (by simp)]; simp [jM, jO, mr, cif_true, cif_false, m0, hM0]; done) | (unfold clrs; rw [mr_at]; funext q; simp [jM, jO, mr, cif_true, cif_false, m0]; grind)
        · first | (unfold clrs; rw [mr_ne _ _ (by simp)]; simp [jM, jO, mr, cif_true, cif_false, m0, hM0]; done) | (unfold clrs; rw [mr_at]; funext q; simp [jM, jO, mr, cif_true, cif_false, m0]; grind)
      have hMo : ∀ j, I j → ¬ (jK 29 18) j → (clrs (jM (jO (46, 0, 0, 0)) (jM (jO (45, 0, 0, 0)) (jM (jO (44, 0, 0, 0)) (jM (jO (43, 0, 0, 0)) (jM (jO (42, 0, 0, 0)) (jM (jO (41, 0, 0, 0)) (jM (jO (40, 0, 0, 0)) (jM (jO (39, 0, 0, 0)) (jM (jO (38, 0, 0, 0)) (jM (jO (37, 0, 0, 0)) (jM (jO (36, 0, 0, 0)) (jM (jO (35, 0, 0, 0)) (jM (jO (34, 0, 0, 0)) (jM (jO (33, 0, 0, 0)) (mr (jM (jO (31, 0, 0, 0)) (jM (jO (30, 0, 0, 0)) M)) (32, 0, 0, 0) (fun _ => 0)))))))))))))))) 24).1 j = M.1 j := by
        intro j hj hn
        unfold clrs
        rw [mr_ne _ _ (fun e => hn (by rw [e]; simp [jK]))]
        rw [jM_ne (J := (jO (46, 0, 0, 0))) (fun h => hn ⟨46, by decide, by decide, h⟩)]
        rw [jM_ne (J := (jO (45, 0, 0, 0))) (fun h => hn ⟨45, by decide, by decide, h⟩)]
        rw [jM_ne (J := (jO (44, 0, 0, 0))) (fun h => hn ⟨44, by decide, by decide, h⟩)]
        rw [jM_ne (J := (jO (43, 0, 0, 0))) (fun h => hn ⟨43, by decide, by decide, h⟩)]
        rw [jM_ne (J := (jO (42, 0, 0, 0))) (fun h => hn ⟨42, by decide, by decide, h⟩)]
        rw [jM_ne (J := (jO (41, 0, 0, 0))) (fun h => hn ⟨41, by decide, by decide, h⟩)]
        rw [jM_ne (J := (jO (40, 0, 0, 0))) (fun h => hn ⟨40, by decide, by decide, h⟩)]
        rw [jM_ne (J := (jO (39, 0, 0, 0))) (fun h => hn ⟨39, by decide, by decide, h⟩)]
        rw [jM_ne (J := (jO (38, 0, 0, 0))) (fun h => hn ⟨38, by decide, by decide, h⟩)]
        rw [jM_ne (J := (jO (37, 0, 0, 0))) (fun h => hn ⟨37, by decide, by decide, h⟩)]
        rw [jM_ne (J := (jO (36, 0, 0, 0))) (fun h => hn ⟨36, by decide, by decide, h⟩)]
        rw [jM_ne (J := (jO (35, 0, 0, 0))) (fun h => hn ⟨35, by decide, by decide, h⟩)]
        rw [jM_ne (J := (jO (34, 0, 0, 0))) (fun h => hn ⟨34, by decide, by decide, h⟩)]
        rw [jM_ne (J := (jO (33, 0, 0, 0))) (fun h => hn ⟨33, by decide, by decide, h⟩)]
        rw [mr_ne _ _ (fun e => hn (by rw [e]; simp [jK]))]
        rw [jM_ne (J := (jO (31, 0, 0, 0))) (fun h => hn ⟨31, by decide, by decide, h⟩)]
        rw [jM_ne (J := (jO (30, 0, 0, 0))) (fun h => hn ⟨30, by decide, by decide, h⟩)]
      have hWf : (clrs (jM (jO (46, 0, 0, 0)) (jM (jO (45, 0, 0, 0)) (jM (jO (44, 0, 0, 0)) (jM (jO (43, 0, 0, 0)) (jM (jO (42, 0, 0, 0)) (jM (jO (41, 0, 0, 0)) (jM (jO (40, 0, 0, 0)) (jM (jO (39, 0, 0, 0)) (jM (jO (38, 0, 0, 0)) (jM (jO (37, 0, 0, 0)) (jM (jO (36, 0, 0, 0)) (jM (jO (35, 0, 0, 0)) (jM (jO (34, 0, 0, 0)) (jM (jO (33, 0, 0, 0)) (mr (jM (jO (31, 0, 0, 0)) (jM (jO (30, 0, 0, 0)) M)) (32, 0, 0, 0) (fun _ => 0)))))))))))))))) 24).2 = M.2 := by rfl
      have hFf : ∀ j, (jK 29 18) j → (fu (jF (jO (46, 0, 0, 0)) (fu (jF (jO (45, 0, 0, 0)) (fu (jF (jO (44, 0, 0, 0)) (fu (jF (jO (43, 0, 0, 0)) (fu (jF (jO (42, 0, 0, 0)) (fu (jF (jO (41, 0, 0, 0)) (fu (jF (jO (40, 0, 0, 0)) (fu (jF (jO (39, 0, 0, 0)) (fu (jF (jO (38, 0, 0, 0)) (fu (jF (jO (37, 0, 0, 0)) (fu (jF (jO (36, 0, 0, 0)) (fu (jF (jO (35, 0, 0, 0)) (fu (jF (jO (34, 0, 0, 0)) (fu (jF (jO (33, 0, 0, 0)) (fu (jF (jO (32, 0, 0, 0)) (fu (jF (jO (31, 0, 0, 0)) (fu (jF (jO (30, 0, 0, 0)) F) (29, 0, 0, 0) 0 (30, 0, 0, 0))) (29, 0, 0, 0) 1 (31, 0, 0, 0))) (29, 0, 0, 0) 2 (32, 0, 0, 0))) (29, 0, 0, 0) 3 (33, 0, 0, 0))) (29, 0, 0, 0) 5 (34, 0, 0, 0))) (29, 0, 0, 0) 6 (35, 0, 0, 0))) (29, 0, 0, 0) 7 (36, 0, 0, 0))) (29, 0, 0, 0) 8 (37, 0, 0, 0))) (29, 0, 0, 0) 9 (38, 0, 0, 0))) (29, 0, 0, 0) 10 (39, 0, 0, 0))) (29, 0, 0, 0) 11 (40, 0, 0, 0))) (29, 0, 0, 0) 12 (41, 0, 0, 0))) (29, 0, 0, 0) 13 (42, 0, 0, 0))) (29, 0, 0, 0) 14 (43, 0, 0, 0))) (29, 0, 0, 0) 15 (44, 0, 0, 0))) (29, 0, 0, 0) 16 (45, 0, 0, 0))) (29, 0, 0, 0) 17 (46, 0, 0, 0)) j = f0 j := by
        intro j hj
        obtain ⟨k, h1, h2, rfl⟩ := hj
        rcases (show k = 29 ∨ k = 30 ∨ k = 31 ∨ k = 32 ∨ k = 33 ∨ k = 34 ∨ k = 35 ∨ k = 36 ∨ k = 37 ∨ k = 38 ∨ k = 39 ∨ k = 40 ∨ k = 41 ∨ k = 42 ∨ k = 43 ∨ k = 44 ∨ k = 45 ∨ k = 46 by omega) with rfl | rfl | rfl | rfl | rfl | rfl | rfl | rfl | rfl | rfl | rfl | rfl | rfl | rfl | rfl | rfl | rfl | rfl
        · exact hFr
        · exact (fu_in (by simp) (jF_in (Or.inr (fu_in (by simp) (jF_in (Or.inr (fu_in (by simp) (jF_in (Or.inr (fu_in (by simp) (jF_in (Or.inr (fu_in (by simp) (jF_in (Or.inr (fu_in (by simp) (jF_in (Or.inr (fu_in (by simp) (jF_in (Or.inr (fu_in (by simp) (jF_in (Or.inr (fu_in (by simp) (jF_in (Or.inr (fu_in (by simp) (jF_in (Or.inr (fu_in (by simp) (jF_in (Or.inr (fu_in (by simp) (jF_in (Or.inr (fu_in (by simp) (jF_in (Or.inr (fu_in (by simp) (jF_in (Or.inr (fu_in (by simp) (jF_in (Or.inr (fu_in (by simp) (jF_in (Or.inr (fu_in (by simp) (jF_in (Or.inl rfl)))))))))))))))))))))))))))))))))))))))))))))))))))
        · exact (fu_in (by simp) (jF_in (Or.inr (fu_in (by simp) (jF_in (Or.inr (fu_in (by simp) (jF_in (Or.inr (fu_in (by simp) (jF_in (Or.inr (fu_in (by simp) (jF_in (Or.inr (fu_in (by simp) (jF_in (Or.inr (fu_in (by simp) (jF_in (Or.inr (fu_in (by simp) (jF_in (Or.inr (fu_in (by simp) (jF_in (Or.inr (fu_in (by simp) (jF_in (Or.inr (fu_in (by simp) (jF_in (Or.inr (fu_in (by simp) (jF_in (Or.inr (fu_in (by simp) (jF_in (Or.inr (fu_in (by simp) (jF_in (Or.inr (fu_in (by simp) (jF_in (Or.inr (fu_in (by simp) (jF_in (Or.inl rfl))))))))))))))))))))))))))))))))))))))))))))))))
        · exact (fu_in (by simp) (jF_in (Or.inr (fu_in (by simp) (jF_in (Or.inr (fu_in (by simp) (jF_in (Or.inr (fu_in (by simp) (jF_in (Or.inr (fu_in (by simp) (jF_in (Or.inr (fu_in (by simp) (jF_in (Or.inr (fu_in (by simp) (jF_in (Or.inr (fu_in (by simp) (jF_in (Or.inr (fu_in (by simp) (jF_in (Or.inr (fu_in (by simp) (jF_in (Or.inr (fu_in (by simp) (jF_in (Or.inr (fu_in (by simp) (jF_in (Or.inr (fu_in (by simp) (jF_in (Or.inr (fu_in (by simp) (jF_in (Or.inr (fu_in (by simp) (jF_in (Or.inl rfl)))))))))))))))))))))))))))))))))))))))))))))
        · exact (fu_in (by simp) (jF_in (Or.inr (fu_in (by simp) (jF_in (Or.inr (fu_in (by simp) (jF_in (Or.inr (fu_in (by simp) (jF_in (Or.inr (fu_in (by simp) (jF_in (Or.inr (fu_in (by simp) (jF_in (Or.inr (fu_in (by simp) (jF_in (Or.inr (fu_in (by simp) (jF_in (Or.inr (fu_in (by simp) (jF_in (Or.inr (fu_in (by simp) (jF_in (Or.inr (fu_in (by simp) (jF_in (Or.inr (fu_in (by simp) (jF_in (Or.inr (fu_in (by simp) (jF_in (Or.inr (fu_in (by simp) (jF_in (Or.inl rfl))))))))))))))))))))))))))))))))))))))))))
        · exact (fu_in (by simp) (jF_in (Or.inr (fu_in (by simp) (jF_in (Or.inr (fu_in (by simp) (jF_in (Or.inr (fu_in (by simp) (jF_in (Or.inr (fu_in (by simp) (jF_in (Or.inr (fu_in (by simp) (jF_in (Or.inr (fu_in (by simp) (jF_in (Or.inr (fu_in (by simp) (jF_in (Or.inr (fu_in (by simp) (jF_in (Or.inr (fu_in (by simp) (jF_in (Or.inr (fu_in (by simp) (jF_in (Or.inr (fu_in (by simp) (jF_in (Or.inr (fu_in (by simp) (jF_in (Or.inl rfl)))))))))))))))))))))))))))))))))))))))
        · exact (fu_in (by simp) (jF_in (Or.inr (fu_in (by simp) (jF_in (Or.inr (fu_in (by simp) (jF_in (Or.inr (fu_in (by simp) (jF_in (Or.inr (fu_in (by simp) (jF_in (Or.inr (fu_in (by simp) (jF_in (Or.inr (fu_in (by simp) (jF_in (Or.inr (fu_in (by simp) (jF_in (Or.inr (fu_in (by simp) (jF_in (Or.inr (fu_in (by simp) (jF_in (Or.inr (fu_in (by simp) (jF_in (Or.inr (fu_in (by simp) (jF_in (Or.inl rfl))))))))))))))))))))))))))))))))))))
        · exact (fu_in (by simp) (jF_in (Or.inr (fu_in (by simp) (jF_in (Or.inr (fu_in (by simp) (jF_in (Or.inr (fu_in (by simp) (jF_in (Or.inr (fu_in (by simp) (jF_in (Or.inr (fu_in (by simp) (jF_in (Or.inr (fu_in (by simp) (jF_in (Or.inr (fu_in (by simp) (jF_in (Or.inr (fu_in (by simp) (jF_in (Or.inr (fu_in (by simp) (jF_in (Or.inr (fu_in (by simp) (jF_in (Or.inl rfl)))))))))))))))))))))))))))))))))
        · exact (fu_in (by simp) (jF_in (Or.inr (fu_in (by simp) (jF_in (Or.inr (fu_in (by simp) (jF_in (Or.inr (fu_in (by simp) (jF_in (Or.inr (fu_in (by simp) (jF_in (Or.inr (fu_in (by simp) (jF_in (Or.inr (fu_in (by simp) (jF_in (Or.inr (fu_in (by simp) (jF_in (Or.inr (fu_in (by simp) (jF_in (Or.inr (fu_in (by simp) (jF_in (Or.inl rfl))))))))))))))))))))))))))))))
        · exact (fu_in (by simp) (jF_in (Or.inr (fu_in (by simp) (jF_in (Or.inr (fu_in (by simp) (jF_in (Or.inr (fu_in (by simp) (jF_in (Or.inr (fu_in (by simp) (jF_in (Or.inr (fu_in (by simp) (jF_in (Or.inr (fu_in (by simp) (jF_in (Or.inr (fu_in (by simp) (jF_in (Or.inr (fu_in (by simp) (jF_in (Or.inl rfl)))))))))))))))))))))))))))
        · exact (fu_in (by simp) (jF_in (Or.inr (fu_in (by simp) (jF_in (Or.inr (fu_in (by simp) (jF_in (Or.inr (fu_in (by simp) (jF_in (Or.inr (fu_in (by simp) (jF_in (Or.inr (fu_in (by simp) (jF_in (Or.inr (fu_in (by simp) (jF_in (Or.inr (fu_in (by simp) (jF_in (Or.inl rfl))))))))))))))))))))))))
        · exact (fu_in (by simp) (jF_in (Or.inr (fu_in (by simp) (jF_in (Or.inr (fu_in (by simp) (jF_in (Or.inr (fu_in (by simp) (jF_in (Or.inr (fu_in (by simp) (jF_in (Or.inr (fu_in (by simp) (jF_in (Or.inr (fu_in (by simp) (jF_in (Or.inl rfl)))))))))))))))))))))
        · exact (fu_in (by simp) (jF_in (Or.inr (fu_in (by simp) (jF_in (Or.inr (fu_in (by simp) (jF_in (Or.inr (fu_in (by simp) (jF_in (Or.inr (fu_in (by simp) (jF_in (Or.inr (fu_in (by simp) (jF_in (Or.inl rfl))))))))))))))))))
        · exact (fu_in (by simp) (jF_in (Or.inr (fu_in (by simp) (jF_in (Or.inr (fu_in (by simp) (jF_in (Or.inr (fu_in (by simp) (jF_in (Or.inr (fu_in (by simp) (jF_in (Or.inl rfl)))))))))))))))
        · exact (fu_in (by simp) (jF_in (Or.inr (fu_in (by simp) (jF_in (Or.inr (fu_in (by simp) (jF_in (Or.inr (fu_in (by simp) (jF_in (Or.inl rfl))))))))))))
        · exact (fu_in (by simp) (jF_in (Or.inr (fu_in (by simp) (jF_in (Or.inr (fu_in (by simp) (jF_in (Or.inl rfl)))))))))
        · exact (fu_in (by simp) (jF_in (Or.inr (fu_in (by simp) (jF_in (Or.inl rfl))))))
        · exact (fu_in (by simp) (jF_in (Or.inl rfl)))
      have hFo : ∀ j, I j → ¬ (jK 29 18) j → (fu (jF (jO (46, 0, 0, 0)) (fu (jF (jO (45, 0, 0, 0)) (fu (jF (jO (44, 0, 0, 0)) (fu (jF (jO (43, 0, 0, 0)) (fu (jF (jO (42, 0, 0, 0)) (fu (jF (jO (41, 0, 0, 0)) (fu (jF (jO (40, 0, 0, 0)) (fu (jF (jO (39, 0, 0, 0)) (fu (jF (jO (38, 0, 0, 0)) (fu (jF (jO (37, 0, 0, 0)) (fu (jF (jO (36, 0, 0, 0)) (fu (jF (jO (35, 0, 0, 0)) (fu (jF (jO (34, 0, 0, 0)) (fu (jF (jO (33, 0, 0, 0)) (fu (jF (jO (32, 0, 0, 0)) (fu (jF (jO (31, 0, 0, 0)) (fu (jF (jO (30, 0, 0, 0)) F) (29, 0, 0, 0) 0 (30, 0, 0, 0))) (29, 0, 0, 0) 1 (31, 0, 0, 0))) (29, 0, 0, 0) 2 (32, 0, 0, 0))) (29, 0, 0, 0) 3 (33, 0, 0, 0))) (29, 0, 0, 0) 5 (34, 0, 0, 0))) (29, 0, 0, 0) 6 (35, 0, 0, 0))) (29, 0, 0, 0) 7 (36, 0, 0, 0))) (29, 0, 0, 0) 8 (37, 0, 0, 0))) (29, 0, 0, 0) 9 (38, 0, 0, 0))) (29, 0, 0, 0) 10 (39, 0, 0, 0))) (29, 0, 0, 0) 11 (40, 0, 0, 0))) (29, 0, 0, 0) 12 (41, 0, 0, 0))) (29, 0, 0, 0) 13 (42, 0, 0, 0))) (29, 0, 0, 0) 14 (43, 0, 0, 0))) (29, 0, 0, 0) 15 (44, 0, 0, 0))) (29, 0, 0, 0) 16 (45, 0, 0, 0))) (29, 0, 0, 0) 17 (46, 0, 0, 0)) j = F j := by
        intro j hj hn
        rw [fu_ne (fun e => hn (by rw [e]; simp [jK]))]
        rw [jF_ne (J := (jO (46, 0, 0, 0))) (fun h => hn ⟨46, by decide, by decide, h⟩)]
        rw [fu_ne (fun e => hn (by rw [e]; simp [jK]))]
        rw [jF_ne (J := (jO (45, 0, 0, 0))) (fun h => hn ⟨45, by decide, by decide, h⟩)]
        rw [fu_ne (fun e => hn (by rw [e]; simp [jK]))]
        rw [jF_ne (J := (jO (44, 0, 0, 0))) (fun h => hn ⟨44, by decide, by decide, h⟩)]
        rw [fu_ne (fun e => hn (by rw [e]; simp [jK]))]
        rw [jF_ne (J := (jO (43, 0, 0, 0))) (fun h => hn ⟨43, by decide, by decide, h⟩)]
        rw [fu_ne (fun e => hn (by rw [e]; simp [jK]))]
        rw [jF_ne (J := (jO (42, 0, 0, 0))) (fun h => hn ⟨42, by decide, by decide, h⟩)]
        rw [fu_ne (fun e => hn (by rw [e]; simp [jK]))]
        rw [jF_ne (J := (jO (41, 0, 0, 0))) (fun h => hn ⟨41, by decide, by decide, h⟩)]
        rw [fu_ne (fun e => hn (by rw [e]; simp [jK]))]
        rw [jF_ne (J := (jO (40, 0, 0, 0))) (fun h => hn ⟨40, by decide, by decide, h⟩)]
        rw [fu_ne (fun e => hn (by rw [e]; simp [jK]))]
        rw [jF_ne (J := (jO (39, 0, 0, 0))) (fun h => hn ⟨39, by decide, by decide, h⟩)]
        rw [fu_ne (fun e => hn (by rw [e]; simp [jK]))]
        rw [jF_ne (J := (jO (38, 0, 0, 0))) (fun h => hn ⟨38, by decide, by decide, h⟩)]
        rw [fu_ne (fun e => hn (by rw [e]; simp [jK]))]
        rw [jF_ne (J := (jO (37, 0, 0, 0))) (fun h => hn ⟨37, by decide, by decide, h⟩)]
        rw [fu_ne (fun e => hn (by rw [e]; simp [jK]))]
        rw [jF_ne (J := (jO (36, 0, 0, 0))) (fun h => hn ⟨36, by decide, by decide, h⟩)]
        rw [fu_ne (fun e => hn (by rw [e]; simp [jK]))]
        rw [jF_ne (J := (jO (35, 0, 0, 0))) (fun h => hn ⟨35, by decide, by decide, h⟩)]
        rw [fu_ne (fun e => hn (by rw [e]; simp [jK]))]
        rw [jF_ne (J := (jO (34, 0, 0, 0))) (fun h => hn ⟨34, by decide, by decide, h⟩)]
        rw [fu_ne (fun e => hn (by rw [e]; simp [jK]))]
        rw [jF_ne (J := (jO (33, 0, 0, 0))) (fun h => hn ⟨33, by decide, by decide, h⟩)]
        rw [fu_ne (fun e => hn (by rw [e]; simp [jK]))]
        rw [jF_ne (J := (jO (32, 0, 0, 0))) (fun h => hn ⟨32, by decide, by decide, h⟩)]
        rw [fu_ne (fun e => hn (by rw [e]; simp [jK]))]
        rw [jF_ne (J := (jO (31, 0, 0, 0))) (fun h => hn ⟨31, by decide, by decide, h⟩)]
        rw [fu_ne (fun e => hn (by rw [e]; simp [jK]))]
        rw [jF_ne (J := (jO (30, 0, 0, 0))) (fun h => hn ⟨30, by decide, by decide, h⟩)]
      exact r2_ret (pc := 161) C (w2.fin (i := (29, 0, 0, 0)) (M := M) hP hIf hfr hMf hMo hWf hFf hFo) hxt (fun j hj hn => hnw j ((hIf j).mp hj) hn) hS (Nat.le_of_ble_eq_true rfl) (Nat.le_of_ble_eq_true rfl) dX9_init_161
    | succ n ih =>
      intro k hk H locs ls hP hS hl
      refine lv_iload_n (pc := 144) hx hb dX9_init_144 rfl (lv_at hl 0 rfl) ?_
      refine lv_bipush (pc := 145) (v := (24 : Int32)) hx hb dX9_init_145 (by decide) ?_
      refine lv_icmp_ge (pc := 147) (tgt := 161) hx hb dX9_init_147 (by decide) (fun h => absurd h (by rw [show (24 : Int32) = nI 24 from rfl, nI_leI (by omega) (by omega)]; omega)) (fun _ => ?_)
      refine lv_aload_n (pc := 150) hx hb dX9_init_150 rfl (lv_at hl 1 rfl) ?_
      refine lv_iload_n (pc := 151) hx hb dX9_init_151 rfl (lv_at hl 0 rfl) ?_
      refine r2_cV (pc := 152) (rest := []) (As := [.int (nI k)]) (i := (29, 0, 0, 0)) (I0 := (jK 29 18)) (Qp := fun M1 => M1 = clrs (jM (jO (46, 0, 0, 0)) (jM (jO (45, 0, 0, 0)) (jM (jO (44, 0, 0, 0)) (jM (jO (43, 0, 0, 0)) (jM (jO (42, 0, 0, 0)) (jM (jO (41, 0, 0, 0)) (jM (jO (40, 0, 0, 0)) (jM (jO (39, 0, 0, 0)) (jM (jO (38, 0, 0, 0)) (jM (jO (37, 0, 0, 0)) (jM (jO (36, 0, 0, 0)) (jM (jO (35, 0, 0, 0)) (jM (jO (34, 0, 0, 0)) (jM (jO (33, 0, 0, 0)) (mr (jM (jO (31, 0, 0, 0)) (jM (jO (30, 0, 0, 0)) M)) (32, 0, 0, 0) (fun _ => 0)))))))))))))))) (k + 1)) C hl.1 hP hS (k_X9_clear l G clo_29 ⟨29, by decide, by decide, rfl⟩ (w9_clear (k := k) (by omega) (clrs_succ _ _))) hS0 hst0 (fun M1 e => by subst e; exact ⟨fun j hj h => by unfold clrs; rw [mr_ne _ _ (fun q => h (by rw [q]; exact ⟨32, by decide, by decide, rfl⟩)), mr_ne _ _ (fun q => h (by rw [q]; exact ⟨32, by decide, by decide, rfl⟩))], rfl⟩) hq_t ⟨29, by decide, by decide, rfl⟩ rfl rfl mw_711 mw_713 mw_34 mw_65 mw_714 ⟨rfl, rfl⟩ hd_X9_clear rfl rfl ⟨Nat.le_of_ble_eq_true rfl, Nat.le_of_ble_eq_true rfl⟩ (Nat.le_of_ble_eq_true rfl) ⟨Nat.le_of_ble_eq_true rfl, Nat.le_of_ble_eq_true rfl⟩ dX9_init_152 (fun M9 H locs hw9 hP hS => ?_)
      subst hw9
      refine lv_iinc (pc := 155) (v := nI (k + 1)) (lv' := [(1, .int (nI (k + 1))), (0, .ref a)]) hx hb dX9_init_155 hl (k := 0) rfl (nI_1 k) (by decide) rfl (fun ls hl => ?_)
      refine lv_goto (pc := 158) (tgt := 144) hx hb dX9_init_158 (by decide) ?_
      exact ih (k + 1) (by omega) H locs ls hP hS hl
  exact key 24 0 rfl H locs ls (by rw [clrs_0]; exact hP) hS hl
