abbrev rmI_X0 : Room := { frames := 2, cells := 25, slots := 119, locals := 40 }
theorem hd_X0_init : yX0_init.cls ≠ "java/lang/invoke/MethodHandle" ∧ yX0_init.cls ≠ "java/lang/invoke/VarHandle" ∧ (parseMethodDescriptor yX0_init.desc).map (fun d => d.parameters.length) = some 0 := ⟨by decide +kernel, by decide +kernel, by decide +kernel⟩
set_option maxHeartbeats 4000000 in
set_option maxRecDepth 100000 in
theorem kI_X0 (l : Launch) (G : GG) {I : ix → Prop} {ad : ix → Nat} {M : Mem} {F : Fm} {sz a : Nat} {s0 b0 : Nat} (ha : ad (3, s0, b0, 0) = a) (hroot : I (3, s0, b0, 0)) (hM0 : M.1 (3, s0, b0, 0) = fun _ => 0) (hF0 : F (3, s0, b0, 0) = fun _ => none) (hfr : ∀ i, I i → (jB s0 b0) i → i = (3, s0, b0, 0)) : Met l yX0_init (wW yX0_init cX0_init 2 none) rmI_X0 (iPc G I ad M F sz [.ref a]) (iQ G I ad (jU (jB s0 b0) I) (jM (jB s0 b0) M) (jF (jB s0 b0) F) a sz) 25 119 (iA a sz) := by
  refine met_ofI (by decide +kernel) (Nat.le_of_ble_eq_true rfl) rfl (fun p e s m below meth c hsz C haK hin hP hS ls hl => ?_)
  have hx := C.1
  have hb := C.2.1
  have hown := C.2.2.2.1
  have hts := C.2.2.2.2.1
  have hA : ∀ q, s.heap.size ≤ q → iA a s.heap.size q := fun q h => Or.inr h
  have hI_t := hroot
  have hq_t := ha
  have hxt : ∀ j, I j → ad j = ad j := fun _ _ => rfl
  have hup : ∀ j, I j → I j := fun _ h => h
  have hnw : ∀ j, I j → ¬ I j → s.heap.size ≤ ad j := fun j h1 h2 => absurd h1 h2
  have hl : lv_has ls 2 [(0, .ref a)] := hl
  refine lv_aload_n (pc := 0) hx hb dX0_init_0 rfl (lv_at hl 0 rfl) ?_
  refine r2_obj (pc := 1) C hl.1 mw_88 mw_74 mw_75 dX0_init_1 (Nat.le_of_ble_eq_true rfl) (Nat.le_of_ble_eq_true rfl) ?_
  refine lv_aload_n (pc := 4) hx hb dX0_init_4 rfl (lv_at hl 0 rfl) ?_
  refine lv_bipush (pc := 5) (v := (8 : Int32)) hx hb dX0_init_5 (by decide) ?_
  refine lv_iconst (pc := 7) (v := (4 : Int32)) hx hb dX0_init_7 (by decide) ?_
  have hf6 : ∀ i, I i → ¬ (jC s0 b0) i := by
    intro i hi hJ
    have hJ2 : (jB s0 b0) i := (by simp only [jB, jS, jC] at hJ ⊢; grind)
    have he := hfr i hi hJ2
    subst he
    simp [jC] at hJ
  refine r2_mna (pc := 8) (A := iA a s.heap.size) C haK hP hS hf6 mw_89 mw_135 (by decide) (by decide) (by decide) (by decide) (Nat.le_of_ble_eq_true rfl) (Nat.le_of_ble_eq_true rfl) dX0_init_8 (fun q6 ad6 H e6 hx6 hzj6 hP hS => ?_)
  replace hq_t := (hx6 _ hI_t).trans hq_t
  replace hI_t : (jU (jC s0 b0) I) (3, s0, b0, 0) := Or.inr hI_t
  replace hxt : ∀ j, I j → ad6 j = ad j := fun j hj => (hx6 j (hup j hj)).trans (hxt j hj)
  replace hup : ∀ j, I j → (jU (jC s0 b0) I) j := fun j hj => Or.inr (hup j hj)
  replace hnw : ∀ j, (jU (jC s0 b0) I) j → ¬ I j → s.heap.size ≤ ad6 j := fun j hj hn => hj.elim (fun h => hzj6 j h) (fun h => by rw [hx6 j h]; exact hnw j h hn)
  have hz6 : s.heap.size ≤ q6 := by have := hzj6 _ (Or.inl rfl); rw [e6] at this; exact this
  have hI_n6 : (jU (jC s0 b0) I) (4, s0, b0, 0) := Or.inl (Or.inl rfl)
  have hq_n6 := e6
  have hA_n6 : iA a s.heap.size q6 := Or.inr hz6
  refine pF_140 (pc := 12) C hin hP hS hI_t hI_n6 (Or.inl rfl) hq_t hq_n6 dX0_init_12 (fun H locs hP hS => ?_)
  refine lv_aload_n (pc := 15) hx hb dX0_init_15 rfl (lv_at hl 0 rfl) ?_
  refine lv_iconst (pc := 16) (v := (4 : Int32)) hx hb dX0_init_16 (by decide) ?_
  have hf10 : ∀ i, (jU (jC s0 b0) I) i → ¬ (jO (6, s0, b0, 0)) i := by
    intro i hi hJ
    have hJ2 : (jB s0 b0) i := (by simp only [jB, jS, jC, jO] at hJ ⊢; grind)
    rcases hi with hi | hi
    · simp only [jC, jO] at hi hJ
      grind
    · have he := hfr i hi hJ2
      subst he
      simp [jO] at hJ
  refine r2_anew (pc := 17) (i := (6, s0, b0, 0)) (t0 := 5) (A := iA a s.heap.size) C hP hS (fun h => hf10 _ h rfl) (show (6 : Nat) ≠ 27 by decide) rfl rfl haK.2.2.1 mw_91 (by decide) (by decide) (Nat.le_of_ble_eq_true rfl) (Nat.le_of_ble_eq_true rfl) (Nat.le_of_ble_eq_true rfl) dX0_init_17 (fun q10 ad10 H e10 hx10 hz10 hP hS => ?_)
  replace hP : w2 G (jU (jO (6, s0, b0, 0)) (jU (jC s0 b0) I)) ad10 (jM (jO (6, s0, b0, 0)) (jM (jC s0 b0) M)) (nF (fu (jF (jC s0 b0) F) (3, s0, b0, 0) 1 (4, s0, b0, 0)) (6, s0, b0, 0)) H := by rw [← jM_one (i := (6, s0, b0, 0)) rfl]; exact hP
  replace hq_t := (hx10 _ hI_t).trans hq_t
  replace hI_t : (jU (jO (6, s0, b0, 0)) (jU (jC s0 b0) I)) (3, s0, b0, 0) := Or.inr hI_t
  replace hq_n6 := (hx10 _ hI_n6).trans hq_n6
  replace hI_n6 : (jU (jO (6, s0, b0, 0)) (jU (jC s0 b0) I)) (4, s0, b0, 0) := Or.inr hI_n6
  replace hxt : ∀ j, I j → ad10 j = ad j := fun j hj => (hx10 j (hup j hj)).trans (hxt j hj)
  replace hup : ∀ j, I j → (jU (jO (6, s0, b0, 0)) (jU (jC s0 b0) I)) j := fun j hj => Or.inr (hup j hj)
  replace hnw : ∀ j, (jU (jO (6, s0, b0, 0)) (jU (jC s0 b0) I)) j → ¬ I j → s.heap.size ≤ ad10 j := fun j hj hn => hj.elim (fun h => by have h : j = (6, s0, b0, 0) := h; rw [h, e10]; exact hz10) (fun h => by rw [hx10 j h]; exact hnw j h hn)
  have hI_n10 : (jU (jO (6, s0, b0, 0)) (jU (jC s0 b0) I)) (6, s0, b0, 0) := Or.inl rfl
  have hq_n10 := e10
  have hA_n10 : iA a s.heap.size q10 := Or.inr hz10
  refine pF_142 (pc := 20) C hin hP hS hI_t hI_n10 (Or.inl rfl) hq_t hq_n10 dX0_init_20 (fun H locs hP hS => ?_)
  refine lv_iconst (pc := 23) (v := (0 : Int32)) hx hb dX0_init_23 (by decide) ?_
  refine lv_istore_n (pc := 24) (lv' := [(1, .int (0 : Int32)), (0, .ref a)]) hx hb dX0_init_24 rfl hl (by decide) rfl (fun ls hl => ?_)
  refine lv_iload_n (pc := 25) hx hb dX0_init_25 rfl (lv_at hl 0 rfl) ?_
  refine lv_iconst (pc := 26) (v := (4 : Int32)) hx hb dX0_init_26 (by decide) ?_
  refine lv_icmp_ge (pc := 27) (tgt := 49) hx hb dX0_init_27 (by decide) (fun h => absurd h (by decide)) (fun _ => ?_)
  refine lv_aload_n (pc := 30) hx hb dX0_init_30 rfl (lv_at hl 1 rfl) ?_
  refine gR_142 (pc := 31) C hP hI_t hq_t (by simp [fu, nF, jF, jO, jS, jB, jC, jT, jK, cif_true, cif_false]) hq_n10 dX0_init_31 ?_
  refine lv_iload_n (pc := 34) hx hb dX0_init_34 rfl (lv_at hl 0 rfl) ?_
  have hf20 : ∀ i, (jU (jO (6, s0, b0, 0)) (jU (jC s0 b0) I)) i → ¬ (jS s0 b0 0) i := by
    intro i hi hJ
    have hJ2 : (jB s0 b0) i := (by simp only [jB, jS, jC] at hJ ⊢; grind)
    rcases hi with hi | hi | hi
    · simp only [jO, jS] at hi hJ
      grind
    · simp only [jC, jS] at hi hJ
      grind
    · have he := hfr i hi hJ2
      subst he
      simp [jS] at hJ
  refine nw_X0_16 (pc := 35) (A := iA a s.heap.size) C hP hS (fun h => hf20 _ h (Or.inl rfl)) (Nat.le_of_ble_eq_true rfl) (Nat.le_of_ble_eq_true rfl) dX0_init_35 (fun q20 ad20 H e20 hx20 hz20 hP hS => ?_)
  refine lv_dup (pc := 38) hx hb dX0_init_38 rfl ?_
  refine r2_cI (pc := 39) (rest := [.ref q20, .int (0 : Int32), .ref q10]) (As := []) C haK hl.1 hP hS hA (Or.inr hz20) (kI_X6 l G e20 (Or.inl rfl) (mr_at _ _ _) (if_pos rfl) (fun i hi hJ => hi.elim id (fun h => absurd hJ (hf20 i h)))) mw_94 mw_95 mw_59 mw_96 ⟨rfl, rfl⟩ rfl hd_X6_init rfl rfl ⟨Nat.le_of_ble_eq_true rfl, Nat.le_of_ble_eq_true rfl⟩ (Nat.le_of_ble_eq_true rfl) ⟨Nat.le_of_ble_eq_true rfl, Nat.le_of_ble_eq_true rfl⟩ dX0_init_39 (fun ad22 H locs hx22 hnn hP hS => ?_)
  replace hP := hP.root (Or.inl rfl)
  replace hq_t := ((hx22 _ (Or.inr hI_t)).trans (hx20 _ hI_t)).trans hq_t
  replace hI_t : (jU (jS s0 b0 0) (jU (jO (6, s0, b0, 0)) (jU (jC s0 b0) I))) (3, s0, b0, 0) := Or.inr hI_t
  replace hq_n6 := ((hx22 _ (Or.inr hI_n6)).trans (hx20 _ hI_n6)).trans hq_n6
  replace hI_n6 : (jU (jS s0 b0 0) (jU (jO (6, s0, b0, 0)) (jU (jC s0 b0) I))) (4, s0, b0, 0) := Or.inr hI_n6
  replace hq_n10 := ((hx22 _ (Or.inr hI_n10)).trans (hx20 _ hI_n10)).trans hq_n10
  replace hI_n10 : (jU (jS s0 b0 0) (jU (jO (6, s0, b0, 0)) (jU (jC s0 b0) I))) (6, s0, b0, 0) := Or.inr hI_n10
  replace hnw : ∀ j, (jU (jS s0 b0 0) (jU (jO (6, s0, b0, 0)) (jU (jC s0 b0) I))) j → ¬ I j → s.heap.size ≤ ad22 j := by
    intro j hj hn
    by_cases e9 : iI (jU (jO (6, s0, b0, 0)) (jU (jC s0 b0) I)) (7, s0, b0, 0) j
    · rw [hx22 j e9]
      rcases e9 with e9 | e9
      · rw [e9, e20]; exact hz20
      · rw [hx20 j e9]; exact hnw j e9 hn
    · exact hnn j (hj.elim Or.inl (fun h => Or.inr (Or.inr h))) e9
  replace hxt : ∀ j, I j → ad22 j = ad j := fun j hj => ((hx22 j (Or.inr (hup j hj))).trans (hx20 j (hup j hj))).trans (hxt j hj)
  replace hup : ∀ j, I j → (jU (jS s0 b0 0) (jU (jO (6, s0, b0, 0)) (jU (jC s0 b0) I))) j := fun j hj => Or.inr (hup j hj)
  have hI_n20 : (jU (jS s0 b0 0) (jU (jO (6, s0, b0, 0)) (jU (jC s0 b0) I))) (7, s0, b0, 0) := Or.inl (Or.inl rfl)
  have hq_n20 := (hx22 _ (Or.inl rfl)).trans e20
  refine r2_aast (pc := 42) (n := 4) (t0 := 5) (ci := 6) (A := iA a s.heap.size) C hP hS hI_n10 hI_n20 (by rw [hq_n10]; exact hA_n10) (fun _ => rfl) rfl rfl rfl (x := (0 : Int32)) (vpc (by decide)) (k := 0) (by decide) hq_n10 hq_n20 dX0_init_42 (fun H locs hP hS => ?_)
  refine lv_iinc (pc := 43) (v := (1 : Int32)) (lv' := [(1, .int (1 : Int32)), (0, .ref a)]) hx hb dX0_init_43 hl (k := 0) rfl (by decide) (by decide) rfl (fun ls hl => ?_)
  refine lv_goto (pc := 46) (tgt := 25) hx hb dX0_init_46 (by decide) ?_
  refine lv_iload_n (pc := 25) hx hb dX0_init_25 rfl (lv_at hl 0 rfl) ?_
  refine lv_iconst (pc := 26) (v := (4 : Int32)) hx hb dX0_init_26 (by decide) ?_
  refine lv_icmp_ge (pc := 27) (tgt := 49) hx hb dX0_init_27 (by decide) (fun h => absurd h (by decide)) (fun _ => ?_)
  refine lv_aload_n (pc := 30) hx hb dX0_init_30 rfl (lv_at hl 1 rfl) ?_
  refine gR_142 (pc := 31) C hP hI_t hq_t (by simp [fu, nF, jF, jO, jS, jB, jC, jT, jK, cif_true, cif_false]) hq_n10 dX0_init_31 ?_
  refine lv_iload_n (pc := 34) hx hb dX0_init_34 rfl (lv_at hl 0 rfl) ?_
  have hf32 : ∀ i, (jU (jS s0 b0 0) (jU (jO (6, s0, b0, 0)) (jU (jC s0 b0) I))) i → ¬ (jS s0 b0 1) i := by
    intro i hi hJ
    have hJ2 : (jB s0 b0) i := (by simp only [jB, jS, jC] at hJ ⊢; grind)
    rcases hi with hi | hi | hi | hi
    · simp only [jS] at hi hJ
      grind
    · simp only [jO, jS] at hi hJ
      grind
    · simp only [jC, jS] at hi hJ
      grind
    · have he := hfr i hi hJ2
      subst he
      simp [jS] at hJ
  refine nw_X0_16 (pc := 35) (A := iA a s.heap.size) C hP hS (fun h => hf32 _ h (Or.inl rfl)) (Nat.le_of_ble_eq_true rfl) (Nat.le_of_ble_eq_true rfl) dX0_init_35 (fun q32 ad32 H e32 hx32 hz32 hP hS => ?_)
  refine lv_dup (pc := 38) hx hb dX0_init_38 rfl ?_
  refine r2_cI (pc := 39) (rest := [.ref q32, .int (1 : Int32), .ref q10]) (As := []) C haK hl.1 hP hS hA (Or.inr hz32) (kI_X6 l G e32 (Or.inl rfl) (mr_at _ _ _) (if_pos rfl) (fun i hi hJ => hi.elim id (fun h => absurd hJ (hf32 i h)))) mw_94 mw_95 mw_59 mw_96 ⟨rfl, rfl⟩ rfl hd_X6_init rfl rfl ⟨Nat.le_of_ble_eq_true rfl, Nat.le_of_ble_eq_true rfl⟩ (Nat.le_of_ble_eq_true rfl) ⟨Nat.le_of_ble_eq_true rfl, Nat.le_of_ble_eq_true rfl⟩ dX0_init_39 (fun ad34 H locs hx34 hnn hP hS => ?_)
  replace hP := hP.root (Or.inl rfl)
  replace hq_t := ((hx34 _ (Or.inr hI_t)).trans (hx32 _ hI_t)).trans hq_t
  replace hI_t : (jU (jS s0 b0 1) (jU (jS s0 b0 0) (jU (jO (6, s0, b0, 0)) (jU (jC s0 b0) I)))) (3, s0, b0, 0) := Or.inr hI_t
  replace hq_n6 := ((hx34 _ (Or.inr hI_n6)).trans (hx32 _ hI_n6)).trans hq_n6
  replace hI_n6 : (jU (jS s0 b0 1) (jU (jS s0 b0 0) (jU (jO (6, s0, b0, 0)) (jU (jC s0 b0) I)))) (4, s0, b0, 0) := Or.inr hI_n6
  replace hq_n10 := ((hx34 _ (Or.inr hI_n10)).trans (hx32 _ hI_n10)).trans hq_n10
  replace hI_n10 : (jU (jS s0 b0 1) (jU (jS s0 b0 0) (jU (jO (6, s0, b0, 0)) (jU (jC s0 b0) I)))) (6, s0, b0, 0) := Or.inr hI_n10
  replace hq_n20 := ((hx34 _ (Or.inr hI_n20)).trans (hx32 _ hI_n20)).trans hq_n20
  replace hI_n20 : (jU (jS s0 b0 1) (jU (jS s0 b0 0) (jU (jO (6, s0, b0, 0)) (jU (jC s0 b0) I)))) (7, s0, b0, 0) := Or.inr hI_n20
  replace hnw : ∀ j, (jU (jS s0 b0 1) (jU (jS s0 b0 0) (jU (jO (6, s0, b0, 0)) (jU (jC s0 b0) I)))) j → ¬ I j → s.heap.size ≤ ad34 j := by
    intro j hj hn
    by_cases e9 : iI (jU (jS s0 b0 0) (jU (jO (6, s0, b0, 0)) (jU (jC s0 b0) I))) (7, s0, b0, 1) j
    · rw [hx34 j e9]
      rcases e9 with e9 | e9
      · rw [e9, e32]; exact hz32
      · rw [hx32 j e9]; exact hnw j e9 hn
    · exact hnn j (hj.elim Or.inl (fun h => Or.inr (Or.inr h))) e9
  replace hxt : ∀ j, I j → ad34 j = ad j := fun j hj => ((hx34 j (Or.inr (hup j hj))).trans (hx32 j (hup j hj))).trans (hxt j hj)
  replace hup : ∀ j, I j → (jU (jS s0 b0 1) (jU (jS s0 b0 0) (jU (jO (6, s0, b0, 0)) (jU (jC s0 b0) I)))) j := fun j hj => Or.inr (hup j hj)
  have hI_n32 : (jU (jS s0 b0 1) (jU (jS s0 b0 0) (jU (jO (6, s0, b0, 0)) (jU (jC s0 b0) I)))) (7, s0, b0, 1) := Or.inl (Or.inl rfl)
  have hq_n32 := (hx34 _ (Or.inl rfl)).trans e32
  refine r2_aast (pc := 42) (n := 4) (t0 := 5) (ci := 6) (A := iA a s.heap.size) C hP hS hI_n10 hI_n32 (by rw [hq_n10]; exact hA_n10) (fun _ => rfl) rfl rfl rfl (x := (1 : Int32)) (vpc (by decide)) (k := 1) (by decide) hq_n10 hq_n32 dX0_init_42 (fun H locs hP hS => ?_)
  refine lv_iinc (pc := 43) (v := (2 : Int32)) (lv' := [(1, .int (2 : Int32)), (0, .ref a)]) hx hb dX0_init_43 hl (k := 0) rfl (by decide) (by decide) rfl (fun ls hl => ?_)
  refine lv_goto (pc := 46) (tgt := 25) hx hb dX0_init_46 (by decide) ?_
  refine lv_iload_n (pc := 25) hx hb dX0_init_25 rfl (lv_at hl 0 rfl) ?_
  refine lv_iconst (pc := 26) (v := (4 : Int32)) hx hb dX0_init_26 (by decide) ?_
  refine lv_icmp_ge (pc := 27) (tgt := 49) hx hb dX0_init_27 (by decide) (fun h => absurd h (by decide)) (fun _ => ?_)
  refine lv_aload_n (pc := 30) hx hb dX0_init_30 rfl (lv_at hl 1 rfl) ?_
  refine gR_142 (pc := 31) C hP hI_t hq_t (by simp [fu, nF, jF, jO, jS, jB, jC, jT, jK, cif_true, cif_false]) hq_n10 dX0_init_31 ?_
  refine lv_iload_n (pc := 34) hx hb dX0_init_34 rfl (lv_at hl 0 rfl) ?_
  have hf44 : ∀ i, (jU (jS s0 b0 1) (jU (jS s0 b0 0) (jU (jO (6, s0, b0, 0)) (jU (jC s0 b0) I)))) i → ¬ (jS s0 b0 2) i := by
    intro i hi hJ
    have hJ2 : (jB s0 b0) i := (by simp only [jB, jS, jC] at hJ ⊢; grind)
    rcases hi with hi | hi | hi | hi | hi
    · simp only [jS] at hi hJ
      grind
    · simp only [jS] at hi hJ
      grind
    · simp only [jO, jS] at hi hJ
      grind
    · simp only [jC, jS] at hi hJ
      grind
    · have he := hfr i hi hJ2
      subst he
      simp [jS] at hJ
  refine nw_X0_16 (pc := 35) (A := iA a s.heap.size) C hP hS (fun h => hf44 _ h (Or.inl rfl)) (Nat.le_of_ble_eq_true rfl) (Nat.le_of_ble_eq_true rfl) dX0_init_35 (fun q44 ad44 H e44 hx44 hz44 hP hS => ?_)
  refine lv_dup (pc := 38) hx hb dX0_init_38 rfl ?_
  refine r2_cI (pc := 39) (rest := [.ref q44, .int (2 : Int32), .ref q10]) (As := []) C haK hl.1 hP hS hA (Or.inr hz44) (kI_X6 l G e44 (Or.inl rfl) (mr_at _ _ _) (if_pos rfl) (fun i hi hJ => hi.elim id (fun h => absurd hJ (hf44 i h)))) mw_94 mw_95 mw_59 mw_96 ⟨rfl, rfl⟩ rfl hd_X6_init rfl rfl ⟨Nat.le_of_ble_eq_true rfl, Nat.le_of_ble_eq_true rfl⟩ (Nat.le_of_ble_eq_true rfl) ⟨Nat.le_of_ble_eq_true rfl, Nat.le_of_ble_eq_true rfl⟩ dX0_init_39 (fun ad46 H locs hx46 hnn hP hS => ?_)
  replace hP := hP.root (Or.inl rfl)
  replace hq_t := ((hx46 _ (Or.inr hI_t)).trans (hx44 _ hI_t)).trans hq_t
  replace hI_t : (jU (jS s0 b0 2) (jU (jS s0 b0 1) (jU (jS s0 b0 0) (jU (jO (6, s0, b0, 0)) (jU (jC s0 b0) I))))) (3, s0, b0, 0) := Or.inr hI_t
  replace hq_n6 := ((hx46 _ (Or.inr hI_n6)).trans (hx44 _ hI_n6)).trans hq_n6
  replace hI_n6 : (jU (jS s0 b0 2) (jU (jS s0 b0 1) (jU (jS s0 b0 0) (jU (jO (6, s0, b0, 0)) (jU (jC s0 b0) I))))) (4, s0, b0, 0) := Or.inr hI_n6
  replace hq_n10 := ((hx46 _ (Or.inr hI_n10)).trans (hx44 _ hI_n10)).trans hq_n10
  replace hI_n10 : (jU (jS s0 b0 2) (jU (jS s0 b0 1) (jU (jS s0 b0 0) (jU (jO (6, s0, b0, 0)) (jU (jC s0 b0) I))))) (6, s0, b0, 0) := Or.inr hI_n10
  replace hq_n20 := ((hx46 _ (Or.inr hI_n20)).trans (hx44 _ hI_n20)).trans hq_n20
  replace hI_n20 : (jU (jS s0 b0 2) (jU (jS s0 b0 1) (jU (jS s0 b0 0) (jU (jO (6, s0, b0, 0)) (jU (jC s0 b0) I))))) (7, s0, b0, 0) := Or.inr hI_n20
  replace hq_n32 := ((hx46 _ (Or.inr hI_n32)).trans (hx44 _ hI_n32)).trans hq_n32
  replace hI_n32 : (jU (jS s0 b0 2) (jU (jS s0 b0 1) (jU (jS s0 b0 0) (jU (jO (6, s0, b0, 0)) (jU (jC s0 b0) I))))) (7, s0, b0, 1) := Or.inr hI_n32
  replace hnw : ∀ j, (jU (jS s0 b0 2) (jU (jS s0 b0 1) (jU (jS s0 b0 0) (jU (jO (6, s0, b0, 0)) (jU (jC s0 b0) I))))) j → ¬ I j → s.heap.size ≤ ad46 j := by
    intro j hj hn
    by_cases e9 : iI (jU (jS s0 b0 1) (jU (jS s0 b0 0) (jU (jO (6, s0, b0, 0)) (jU (jC s0 b0) I)))) (7, s0, b0, 2) j
    · rw [hx46 j e9]
      rcases e9 with e9 | e9
      · rw [e9, e44]; exact hz44
      · rw [hx44 j e9]; exact hnw j e9 hn
    · exact hnn j (hj.elim Or.inl (fun h => Or.inr (Or.inr h))) e9
  replace hxt : ∀ j, I j → ad46 j = ad j := fun j hj => ((hx46 j (Or.inr (hup j hj))).trans (hx44 j (hup j hj))).trans (hxt j hj)
  replace hup : ∀ j, I j → (jU (jS s0 b0 2) (jU (jS s0 b0 1) (jU (jS s0 b0 0) (jU (jO (6, s0, b0, 0)) (jU (jC s0 b0) I))))) j := fun j hj => Or.inr (hup j hj)
  have hI_n44 : (jU (jS s0 b0 2) (jU (jS s0 b0 1) (jU (jS s0 b0 0) (jU (jO (6, s0, b0, 0)) (jU (jC s0 b0) I))))) (7, s0, b0, 2) := Or.inl (Or.inl rfl)
  have hq_n44 := (hx46 _ (Or.inl rfl)).trans e44
  refine r2_aast (pc := 42) (n := 4) (t0 := 5) (ci := 6) (A := iA a s.heap.size) C hP hS hI_n10 hI_n44 (by rw [hq_n10]; exact hA_n10) (fun _ => rfl) rfl rfl rfl (x := (2 : Int32)) (vpc (by decide)) (k := 2) (by decide) hq_n10 hq_n44 dX0_init_42 (fun H locs hP hS => ?_)
  refine lv_iinc (pc := 43) (v := (3 : Int32)) (lv' := [(1, .int (3 : Int32)), (0, .ref a)]) hx hb dX0_init_43 hl (k := 0) rfl (by decide) (by decide) rfl (fun ls hl => ?_)
  refine lv_goto (pc := 46) (tgt := 25) hx hb dX0_init_46 (by decide) ?_
  refine lv_iload_n (pc := 25) hx hb dX0_init_25 rfl (lv_at hl 0 rfl) ?_
  refine lv_iconst (pc := 26) (v := (4 : Int32)) hx hb dX0_init_26 (by decide) ?_
  refine lv_icmp_ge (pc := 27) (tgt := 49) hx hb dX0_init_27 (by decide) (fun h => absurd h (by decide)) (fun _ => ?_)
  refine lv_aload_n (pc := 30) hx hb dX0_init_30 rfl (lv_at hl 1 rfl) ?_
  refine gR_142 (pc := 31) C hP hI_t hq_t (by simp [fu, nF, jF, jO, jS, jB, jC, jT, jK, cif_true, cif_false]) hq_n10 dX0_init_31 ?_
  refine lv_iload_n (pc := 34) hx hb dX0_init_34 rfl (lv_at hl 0 rfl) ?_
  have hf56 : ∀ i, (jU (jS s0 b0 2) (jU (jS s0 b0 1) (jU (jS s0 b0 0) (jU (jO (6, s0, b0, 0)) (jU (jC s0 b0) I))))) i → ¬ (jS s0 b0 3) i := by
    intro i hi hJ
    have hJ2 : (jB s0 b0) i := (by simp only [jB, jS, jC] at hJ ⊢; grind)
    rcases hi with hi | hi | hi | hi | hi | hi
    · simp only [jS] at hi hJ
      grind
    · simp only [jS] at hi hJ
      grind
    · simp only [jS] at hi hJ
      grind
    · simp only [jO, jS] at hi hJ
      grind
    · simp only [jC, jS] at hi hJ
      grind
    · have he := hfr i hi hJ2
      subst he
      simp [jS] at hJ
  refine nw_X0_16 (pc := 35) (A := iA a s.heap.size) C hP hS (fun h => hf56 _ h (Or.inl rfl)) (Nat.le_of_ble_eq_true rfl) (Nat.le_of_ble_eq_true rfl) dX0_init_35 (fun q56 ad56 H e56 hx56 hz56 hP hS => ?_)
  refine lv_dup (pc := 38) hx hb dX0_init_38 rfl ?_
  refine r2_cI (pc := 39) (rest := [.ref q56, .int (3 : Int32), .ref q10]) (As := []) C haK hl.1 hP hS hA (Or.inr hz56) (kI_X6 l G e56 (Or.inl rfl) (mr_at _ _ _) (if_pos rfl) (fun i hi hJ => hi.elim id (fun h => absurd hJ (hf56 i h)))) mw_94 mw_95 mw_59 mw_96 ⟨rfl, rfl⟩ rfl hd_X6_init rfl rfl ⟨Nat.le_of_ble_eq_true rfl, Nat.le_of_ble_eq_true rfl⟩ (Nat.le_of_ble_eq_true rfl) ⟨Nat.le_of_ble_eq_true rfl, Nat.le_of_ble_eq_true rfl⟩ dX0_init_39 (fun ad58 H locs hx58 hnn hP hS => ?_)
  replace hP := hP.root (Or.inl rfl)
  replace hq_t := ((hx58 _ (Or.inr hI_t)).trans (hx56 _ hI_t)).trans hq_t
  replace hI_t : (jU (jS s0 b0 3) (jU (jS s0 b0 2) (jU (jS s0 b0 1) (jU (jS s0 b0 0) (jU (jO (6, s0, b0, 0)) (jU (jC s0 b0) I)))))) (3, s0, b0, 0) := Or.inr hI_t
  replace hq_n6 := ((hx58 _ (Or.inr hI_n6)).trans (hx56 _ hI_n6)).trans hq_n6
  replace hI_n6 : (jU (jS s0 b0 3) (jU (jS s0 b0 2) (jU (jS s0 b0 1) (jU (jS s0 b0 0) (jU (jO (6, s0, b0, 0)) (jU (jC s0 b0) I)))))) (4, s0, b0, 0) := Or.inr hI_n6
  replace hq_n10 := ((hx58 _ (Or.inr hI_n10)).trans (hx56 _ hI_n10)).trans hq_n10
  replace hI_n10 : (jU (jS s0 b0 3) (jU (jS s0 b0 2) (jU (jS s0 b0 1) (jU (jS s0 b0 0) (jU (jO (6, s0, b0, 0)) (jU (jC s0 b0) I)))))) (6, s0, b0, 0) := Or.inr hI_n10
  replace hq_n20 := ((hx58 _ (Or.inr hI_n20)).trans (hx56 _ hI_n20)).trans hq_n20
  replace hI_n20 : (jU (jS s0 b0 3) (jU (jS s0 b0 2) (jU (jS s0 b0 1) (jU (jS s0 b0 0) (jU (jO (6, s0, b0, 0)) (jU (jC s0 b0) I)))))) (7, s0, b0, 0) := Or.inr hI_n20
  replace hq_n32 := ((hx58 _ (Or.inr hI_n32)).trans (hx56 _ hI_n32)).trans hq_n32
  replace hI_n32 : (jU (jS s0 b0 3) (jU (jS s0 b0 2) (jU (jS s0 b0 1) (jU (jS s0 b0 0) (jU (jO (6, s0, b0, 0)) (jU (jC s0 b0) I)))))) (7, s0, b0, 1) := Or.inr hI_n32
  replace hq_n44 := ((hx58 _ (Or.inr hI_n44)).trans (hx56 _ hI_n44)).trans hq_n44
  replace hI_n44 : (jU (jS s0 b0 3) (jU (jS s0 b0 2) (jU (jS s0 b0 1) (jU (jS s0 b0 0) (jU (jO (6, s0, b0, 0)) (jU (jC s0 b0) I)))))) (7, s0, b0, 2) := Or.inr hI_n44
  replace hnw : ∀ j, (jU (jS s0 b0 3) (jU (jS s0 b0 2) (jU (jS s0 b0 1) (jU (jS s0 b0 0) (jU (jO (6, s0, b0, 0)) (jU (jC s0 b0) I)))))) j → ¬ I j → s.heap.size ≤ ad58 j := by
    intro j hj hn
    by_cases e9 : iI (jU (jS s0 b0 2) (jU (jS s0 b0 1) (jU (jS s0 b0 0) (jU (jO (6, s0, b0, 0)) (jU (jC s0 b0) I))))) (7, s0, b0, 3) j
    · rw [hx58 j e9]
      rcases e9 with e9 | e9
      · rw [e9, e56]; exact hz56
      · rw [hx56 j e9]; exact hnw j e9 hn
    · exact hnn j (hj.elim Or.inl (fun h => Or.inr (Or.inr h))) e9
  replace hxt : ∀ j, I j → ad58 j = ad j := fun j hj => ((hx58 j (Or.inr (hup j hj))).trans (hx56 j (hup j hj))).trans (hxt j hj)
  replace hup : ∀ j, I j → (jU (jS s0 b0 3) (jU (jS s0 b0 2) (jU (jS s0 b0 1) (jU (jS s0 b0 0) (jU (jO (6, s0, b0, 0)) (jU (jC s0 b0) I)))))) j := fun j hj => Or.inr (hup j hj)
  have hI_n56 : (jU (jS s0 b0 3) (jU (jS s0 b0 2) (jU (jS s0 b0 1) (jU (jS s0 b0 0) (jU (jO (6, s0, b0, 0)) (jU (jC s0 b0) I)))))) (7, s0, b0, 3) := Or.inl (Or.inl rfl)
  have hq_n56 := (hx58 _ (Or.inl rfl)).trans e56
  refine r2_aast (pc := 42) (n := 4) (t0 := 5) (ci := 6) (A := iA a s.heap.size) C hP hS hI_n10 hI_n56 (by rw [hq_n10]; exact hA_n10) (fun _ => rfl) rfl rfl rfl (x := (3 : Int32)) (vpc (by decide)) (k := 3) (by decide) hq_n10 hq_n56 dX0_init_42 (fun H locs hP hS => ?_)
  refine lv_iinc (pc := 43) (v := (4 : Int32)) (lv' := [(1, .int (4 : Int32)), (0, .ref a)]) hx hb dX0_init_43 hl (k := 0) rfl (by decide) (by decide) rfl (fun ls hl => ?_)
  refine lv_goto (pc := 46) (tgt := 25) hx hb dX0_init_46 (by decide) ?_
  refine lv_iload_n (pc := 25) hx hb dX0_init_25 rfl (lv_at hl 0 rfl) ?_
  refine lv_iconst (pc := 26) (v := (4 : Int32)) hx hb dX0_init_26 (by decide) ?_
  refine lv_icmp_ge (pc := 27) (tgt := 49) hx hb dX0_init_27 (by decide) (fun _ => ?_) (fun h => absurd (by decide) h)
  refine lv_aload_n (pc := 49) hx hb dX0_init_49 rfl (lv_at hl 1 rfl) ?_
  have hf66 : ∀ i, (jU (jS s0 b0 3) (jU (jS s0 b0 2) (jU (jS s0 b0 1) (jU (jS s0 b0 0) (jU (jO (6, s0, b0, 0)) (jU (jC s0 b0) I)))))) i → ¬ (jS s0 b0 4) i := by
    intro i hi hJ
    have hJ2 : (jB s0 b0) i := (by simp only [jB, jS, jC] at hJ ⊢; grind)
    rcases hi with hi | hi | hi | hi | hi | hi | hi
    · simp only [jS] at hi hJ
      grind
    · simp only [jS] at hi hJ
      grind
    · simp only [jS] at hi hJ
      grind
    · simp only [jS] at hi hJ
      grind
    · simp only [jO, jS] at hi hJ
      grind
    · simp only [jC, jS] at hi hJ
      grind
    · have he := hfr i hi hJ2
      subst he
      simp [jS] at hJ
  refine nw_X0_16 (pc := 50) (A := iA a s.heap.size) C hP hS (fun h => hf66 _ h (Or.inl rfl)) (Nat.le_of_ble_eq_true rfl) (Nat.le_of_ble_eq_true rfl) dX0_init_50 (fun q66 ad66 H e66 hx66 hz66 hP hS => ?_)
  refine lv_dup (pc := 53) hx hb dX0_init_53 rfl ?_
  refine r2_cI (pc := 54) (rest := [.ref q66, .ref a]) (As := []) C haK hl.1 hP hS hA (Or.inr hz66) (kI_X6 l G e66 (Or.inl rfl) (mr_at _ _ _) (if_pos rfl) (fun i hi hJ => hi.elim id (fun h => absurd hJ (hf66 i h)))) mw_94 mw_95 mw_59 mw_96 ⟨rfl, rfl⟩ rfl hd_X6_init rfl rfl ⟨Nat.le_of_ble_eq_true rfl, Nat.le_of_ble_eq_true rfl⟩ (Nat.le_of_ble_eq_true rfl) ⟨Nat.le_of_ble_eq_true rfl, Nat.le_of_ble_eq_true rfl⟩ dX0_init_54 (fun ad68 H locs hx68 hnn hP hS => ?_)
  replace hP := hP.root (Or.inl rfl)
  replace hq_t := ((hx68 _ (Or.inr hI_t)).trans (hx66 _ hI_t)).trans hq_t
  replace hI_t : (jU (jS s0 b0 4) (jU (jS s0 b0 3) (jU (jS s0 b0 2) (jU (jS s0 b0 1) (jU (jS s0 b0 0) (jU (jO (6, s0, b0, 0)) (jU (jC s0 b0) I))))))) (3, s0, b0, 0) := Or.inr hI_t
  replace hq_n6 := ((hx68 _ (Or.inr hI_n6)).trans (hx66 _ hI_n6)).trans hq_n6
  replace hI_n6 : (jU (jS s0 b0 4) (jU (jS s0 b0 3) (jU (jS s0 b0 2) (jU (jS s0 b0 1) (jU (jS s0 b0 0) (jU (jO (6, s0, b0, 0)) (jU (jC s0 b0) I))))))) (4, s0, b0, 0) := Or.inr hI_n6
  replace hq_n10 := ((hx68 _ (Or.inr hI_n10)).trans (hx66 _ hI_n10)).trans hq_n10
  replace hI_n10 : (jU (jS s0 b0 4) (jU (jS s0 b0 3) (jU (jS s0 b0 2) (jU (jS s0 b0 1) (jU (jS s0 b0 0) (jU (jO (6, s0, b0, 0)) (jU (jC s0 b0) I))))))) (6, s0, b0, 0) := Or.inr hI_n10
  replace hq_n20 := ((hx68 _ (Or.inr hI_n20)).trans (hx66 _ hI_n20)).trans hq_n20
  replace hI_n20 : (jU (jS s0 b0 4) (jU (jS s0 b0 3) (jU (jS s0 b0 2) (jU (jS s0 b0 1) (jU (jS s0 b0 0) (jU (jO (6, s0, b0, 0)) (jU (jC s0 b0) I))))))) (7, s0, b0, 0) := Or.inr hI_n20
  replace hq_n32 := ((hx68 _ (Or.inr hI_n32)).trans (hx66 _ hI_n32)).trans hq_n32
  replace hI_n32 : (jU (jS s0 b0 4) (jU (jS s0 b0 3) (jU (jS s0 b0 2) (jU (jS s0 b0 1) (jU (jS s0 b0 0) (jU (jO (6, s0, b0, 0)) (jU (jC s0 b0) I))))))) (7, s0, b0, 1) := Or.inr hI_n32
  replace hq_n44 := ((hx68 _ (Or.inr hI_n44)).trans (hx66 _ hI_n44)).trans hq_n44
  replace hI_n44 : (jU (jS s0 b0 4) (jU (jS s0 b0 3) (jU (jS s0 b0 2) (jU (jS s0 b0 1) (jU (jS s0 b0 0) (jU (jO (6, s0, b0, 0)) (jU (jC s0 b0) I))))))) (7, s0, b0, 2) := Or.inr hI_n44
  replace hq_n56 := ((hx68 _ (Or.inr hI_n56)).trans (hx66 _ hI_n56)).trans hq_n56
  replace hI_n56 : (jU (jS s0 b0 4) (jU (jS s0 b0 3) (jU (jS s0 b0 2) (jU (jS s0 b0 1) (jU (jS s0 b0 0) (jU (jO (6, s0, b0, 0)) (jU (jC s0 b0) I))))))) (7, s0, b0, 3) := Or.inr hI_n56
  replace hnw : ∀ j, (jU (jS s0 b0 4) (jU (jS s0 b0 3) (jU (jS s0 b0 2) (jU (jS s0 b0 1) (jU (jS s0 b0 0) (jU (jO (6, s0, b0, 0)) (jU (jC s0 b0) I))))))) j → ¬ I j → s.heap.size ≤ ad68 j := by
    intro j hj hn
    by_cases e9 : iI (jU (jS s0 b0 3) (jU (jS s0 b0 2) (jU (jS s0 b0 1) (jU (jS s0 b0 0) (jU (jO (6, s0, b0, 0)) (jU (jC s0 b0) I)))))) (7, s0, b0, 4) j
    · rw [hx68 j e9]
      rcases e9 with e9 | e9
      · rw [e9, e66]; exact hz66
      · rw [hx66 j e9]; exact hnw j e9 hn
    · exact hnn j (hj.elim Or.inl (fun h => Or.inr (Or.inr h))) e9
  replace hxt : ∀ j, I j → ad68 j = ad j := fun j hj => ((hx68 j (Or.inr (hup j hj))).trans (hx66 j (hup j hj))).trans (hxt j hj)
  replace hup : ∀ j, I j → (jU (jS s0 b0 4) (jU (jS s0 b0 3) (jU (jS s0 b0 2) (jU (jS s0 b0 1) (jU (jS s0 b0 0) (jU (jO (6, s0, b0, 0)) (jU (jC s0 b0) I))))))) j := fun j hj => Or.inr (hup j hj)
  have hI_n66 : (jU (jS s0 b0 4) (jU (jS s0 b0 3) (jU (jS s0 b0 2) (jU (jS s0 b0 1) (jU (jS s0 b0 0) (jU (jO (6, s0, b0, 0)) (jU (jC s0 b0) I))))))) (7, s0, b0, 4) := Or.inl (Or.inl rfl)
  have hq_n66 := (hx68 _ (Or.inl rfl)).trans e66
  refine pF_145 (pc := 57) C hin hP hS hI_t hI_n66 (Or.inl rfl) hq_t hq_n66 dX0_init_57 (fun H locs hP hS => ?_)
  have hIf : ∀ j, jU (jB s0 b0) I j ↔ (jU (jS s0 b0 4) (jU (jS s0 b0 3) (jU (jS s0 b0 2) (jU (jS s0 b0 1) (jU (jS s0 b0 0) (jU (jO (6, s0, b0, 0)) (jU (jC s0 b0) I))))))) j := by
    intro j
    constructor
    · rintro (hj | hj)
      · skip
        rcases hj with rfl | rfl | ⟨r, hr, rfl⟩ | rfl | ⟨c, hc, hj⟩
        · exact hup _ hroot
        · exact (Or.inr (Or.inr (Or.inr (Or.inr (Or.inr (Or.inr (Or.inl (Or.inl rfl))))))))
        · exact (Or.inr (Or.inr (Or.inr (Or.inr (Or.inr (Or.inr (Or.inl (Or.inr ⟨r, hr, rfl⟩))))))))
        · exact (Or.inr (Or.inr (Or.inr (Or.inr (Or.inr (Or.inl rfl))))))
        · rcases (show c = 0 ∨ c = 1 ∨ c = 2 ∨ c = 3 ∨ c = 4 by omega) with rfl | rfl | rfl | rfl | rfl
          · exact (Or.inr (Or.inr (Or.inr (Or.inr (Or.inl hj)))))
          · exact (Or.inr (Or.inr (Or.inr (Or.inl hj))))
          · exact (Or.inr (Or.inr (Or.inl hj)))
          · exact (Or.inr (Or.inl hj))
          · exact (Or.inl hj)
      · exact hup j hj
    · rintro (hj | hj | hj | hj | hj | hj | hj | hj)
      · exact Or.inl (by simp only [jB, jS, jC] at hj ⊢; grind)
      · exact Or.inl (by simp only [jB, jS, jC] at hj ⊢; grind)
      · exact Or.inl (by simp only [jB, jS, jC] at hj ⊢; grind)
      · exact Or.inl (by simp only [jB, jS, jC] at hj ⊢; grind)
      · exact Or.inl (by simp only [jB, jS, jC] at hj ⊢; grind)
      · exact Or.inl (by simp only [jB, jS, jC, jO] at hj ⊢; grind)
      · exact Or.inl (by simp only [jB, jS, jC] at hj ⊢; grind)
      · exact Or.inr hj
  have hMf : ∀ j, (jB s0 b0) j → (jM (jS s0 b0 4) (jM (jS s0 b0 3) (jM (jS s0 b0 2) (jM (jS s0 b0 1) (jM (jS s0 b0 0) (jM (jO (6, s0, b0, 0)) (jM (jC s0 b0) M))))))).1 j = m0 j := by
    intro j hj
    rcases hj with rfl | rfl | ⟨r, hr, rfl⟩ | rfl | ⟨c, hc, hj⟩
    · exact (jM_in (Or.inr (jM_in (Or.inr (jM_in (Or.inr (jM_in (Or.inr (jM_in (Or.inr (jM_in (Or.inr (jM_in (Or.inr (hM0.trans rfl)))))))))))))))
    · exact (jM_in (Or.inr (jM_in (Or.inr (jM_in (Or.inr (jM_in (Or.inr (jM_in (Or.inr (jM_in (Or.inr (jM_in (Or.inl (Or.inl rfl)))))))))))))))
    · exact (jM_in (Or.inr (jM_in (Or.inr (jM_in (Or.inr (jM_in (Or.inr (jM_in (Or.inr (jM_in (Or.inr (jM_in (Or.inl (Or.inr ⟨r, hr, rfl⟩)))))))))))))))
    · exact (jM_in (Or.inr (jM_in (Or.inr (jM_in (Or.inr (jM_in (Or.inr (jM_in (Or.inr (jM_in (Or.inl rfl))))))))))))
    · rcases (show c = 0 ∨ c = 1 ∨ c = 2 ∨ c = 3 ∨ c = 4 by omega) with rfl | rfl | rfl | rfl | rfl
      · exact (jM_in (Or.inr (jM_in (Or.inr (jM_in (Or.inr (jM_in (Or.inr (jM_in (Or.inl hj))))))))))
      · exact (jM_in (Or.inr (jM_in (Or.inr (jM_in (Or.inr (jM_in (Or.inl hj))))))))
      · exact (jM_in (Or.inr (jM_in (Or.inr (jM_in (Or.inl hj))))))
      · exact (jM_in (Or.inr (jM_in (Or.inl hj))))
      · exact (jM_in (Or.inl hj))
  have hMo : ∀ j, I j → ¬ (jB s0 b0) j → (jM (jS s0 b0 4) (jM (jS s0 b0 3) (jM (jS s0 b0 2) (jM (jS s0 b0 1) (jM (jS s0 b0 0) (jM (jO (6, s0, b0, 0)) (jM (jC s0 b0) M))))))).1 j = M.1 j := by
    intro j hj hn
    rw [jM_ne (fun h => hn (by simp only [jB, jS, jC] at h ⊢; grind))]
    rw [jM_ne (fun h => hn (by simp only [jB, jS, jC] at h ⊢; grind))]
    rw [jM_ne (fun h => hn (by simp only [jB, jS, jC] at h ⊢; grind))]
    rw [jM_ne (fun h => hn (by simp only [jB, jS, jC] at h ⊢; grind))]
    rw [jM_ne (fun h => hn (by simp only [jB, jS, jC] at h ⊢; grind))]
    rw [jM_ne (fun h => hn (by simp only [jB, jS, jC, jO] at h ⊢; grind))]
    rw [jM_ne (fun h => hn (by simp only [jB, jS, jC] at h ⊢; grind))]
  have hWf : (jM (jS s0 b0 4) (jM (jS s0 b0 3) (jM (jS s0 b0 2) (jM (jS s0 b0 1) (jM (jS s0 b0 0) (jM (jO (6, s0, b0, 0)) (jM (jC s0 b0) M))))))).2 = M.2 := by rfl
  have hFf : ∀ j, (jB s0 b0) j → (fu (jF (jS s0 b0 4) (fu (jF (jS s0 b0 3) (fu (jF (jS s0 b0 2) (fu (jF (jS s0 b0 1) (fu (jF (jS s0 b0 0) (fu (nF (fu (jF (jC s0 b0) F) (3, s0, b0, 0) 1 (4, s0, b0, 0)) (6, s0, b0, 0)) (3, s0, b0, 0) 2 (6, s0, b0, 0))) (6, s0, b0, 0) 0 (7, s0, b0, 0))) (6, s0, b0, 0) 1 (7, s0, b0, 1))) (6, s0, b0, 0) 2 (7, s0, b0, 2))) (6, s0, b0, 0) 3 (7, s0, b0, 3))) (3, s0, b0, 0) 3 (7, s0, b0, 4)) j = f0 j := by
    intro j hj
    rcases hj with rfl | rfl | ⟨r, hr, rfl⟩ | rfl | ⟨c, hc, hj⟩
    · funext q; simp [fu, nF, jF, jO, jS, jB, jC, jT, jK, cif_true, cif_false, f0, hF0] <;> grind
    · exact (fu_in (by simp) (jF_in (Or.inr (fu_in (by simp) (jF_in (Or.inr (fu_in (by simp) (jF_in (Or.inr (fu_in (by simp) (jF_in (Or.inr (fu_in (by simp) (jF_in (Or.inr (fu_in (by simp) (nF_in (by simp) (fu_in (by simp) (jF_in (Or.inl (Or.inl rfl)))))))))))))))))))))
    · exact (fu_in (by simp) (jF_in (Or.inr (fu_in (by simp) (jF_in (Or.inr (fu_in (by simp) (jF_in (Or.inr (fu_in (by simp) (jF_in (Or.inr (fu_in (by simp) (jF_in (Or.inr (fu_in (by simp) (nF_in (by simp) (fu_in (by simp) (jF_in (Or.inl (Or.inr ⟨r, hr, rfl⟩)))))))))))))))))))))
    · funext q; simp [fu, nF, jF, jO, jS, jB, jC, jT, jK, cif_true, cif_false, f0, hF0] <;> grind
    · rcases (show c = 0 ∨ c = 1 ∨ c = 2 ∨ c = 3 ∨ c = 4 by omega) with rfl | rfl | rfl | rfl | rfl
      · exact (fu_in (by intro h9; rw [h9] at hj; simp [jS] at hj) (jF_in (Or.inr (fu_in (by intro h9; rw [h9] at hj; simp [jS] at hj) (jF_in (Or.inr (fu_in (by intro h9; rw [h9] at hj; simp [jS] at hj) (jF_in (Or.inr (fu_in (by intro h9; rw [h9] at hj; simp [jS] at hj) (jF_in (Or.inr (fu_in (by intro h9; rw [h9] at hj; simp [jS] at hj) (jF_in (Or.inl hj)))))))))))))))
      · exact (fu_in (by intro h9; rw [h9] at hj; simp [jS] at hj) (jF_in (Or.inr (fu_in (by intro h9; rw [h9] at hj; simp [jS] at hj) (jF_in (Or.inr (fu_in (by intro h9; rw [h9] at hj; simp [jS] at hj) (jF_in (Or.inr (fu_in (by intro h9; rw [h9] at hj; simp [jS] at hj) (jF_in (Or.inl hj))))))))))))
      · exact (fu_in (by intro h9; rw [h9] at hj; simp [jS] at hj) (jF_in (Or.inr (fu_in (by intro h9; rw [h9] at hj; simp [jS] at hj) (jF_in (Or.inr (fu_in (by intro h9; rw [h9] at hj; simp [jS] at hj) (jF_in (Or.inl hj)))))))))
      · exact (fu_in (by intro h9; rw [h9] at hj; simp [jS] at hj) (jF_in (Or.inr (fu_in (by intro h9; rw [h9] at hj; simp [jS] at hj) (jF_in (Or.inl hj))))))
      · exact (fu_in (by intro h9; rw [h9] at hj; simp [jS] at hj) (jF_in (Or.inl hj)))
  have hFo : ∀ j, I j → ¬ (jB s0 b0) j → (fu (jF (jS s0 b0 4) (fu (jF (jS s0 b0 3) (fu (jF (jS s0 b0 2) (fu (jF (jS s0 b0 1) (fu (jF (jS s0 b0 0) (fu (nF (fu (jF (jC s0 b0) F) (3, s0, b0, 0) 1 (4, s0, b0, 0)) (6, s0, b0, 0)) (3, s0, b0, 0) 2 (6, s0, b0, 0))) (6, s0, b0, 0) 0 (7, s0, b0, 0))) (6, s0, b0, 0) 1 (7, s0, b0, 1))) (6, s0, b0, 0) 2 (7, s0, b0, 2))) (6, s0, b0, 0) 3 (7, s0, b0, 3))) (3, s0, b0, 0) 3 (7, s0, b0, 4)) j = F j := by
    intro j hj hn
    rw [fu_ne (fun e => hn (by rw [e]; simp [jB, jS, jC]))]
    rw [jF_ne (fun h => hn (by simp only [jB, jS, jC] at h ⊢; grind))]
    rw [fu_ne (fun e => hn (by rw [e]; simp [jB, jS, jC]))]
    rw [jF_ne (fun h => hn (by simp only [jB, jS, jC] at h ⊢; grind))]
    rw [fu_ne (fun e => hn (by rw [e]; simp [jB, jS, jC]))]
    rw [jF_ne (fun h => hn (by simp only [jB, jS, jC] at h ⊢; grind))]
    rw [fu_ne (fun e => hn (by rw [e]; simp [jB, jS, jC]))]
    rw [jF_ne (fun h => hn (by simp only [jB, jS, jC] at h ⊢; grind))]
    rw [fu_ne (fun e => hn (by rw [e]; simp [jB, jS, jC]))]
    rw [jF_ne (fun h => hn (by simp only [jB, jS, jC] at h ⊢; grind))]
    rw [fu_ne (fun e => hn (by rw [e]; simp [jB, jS, jC]))]
    rw [nF_ne (fun e => hn (by rw [e]; simp [jB, jS, jC]))]
    rw [fu_ne (fun e => hn (by rw [e]; simp [jB, jS, jC]))]
    rw [jF_ne (fun h => hn (by simp only [jB, jS, jC] at h ⊢; grind))]
  exact r2_ret (pc := 60) C (w2.fin (i := (3, s0, b0, 0)) (M := M) hP hIf hfr hMf hMo hWf hFf hFo) hxt (fun j hj hn => hnw j ((hIf j).mp hj) hn) hS (Nat.le_of_ble_eq_true rfl) (Nat.le_of_ble_eq_true rfl) dX0_init_60
abbrev rmI_X5 : Room := { frames := 3, cells := 157, slots := 744, locals := 61 }
theorem hd_X5_init : yX5_init.cls ≠ "java/lang/invoke/MethodHandle" ∧ yX5_init.cls ≠ "java/lang/invoke/VarHandle" ∧ (parseMethodDescriptor yX5_init.desc).map (fun d => d.parameters.length) = some 0 := ⟨by decide +kernel, by decide +kernel, by decide +kernel⟩
set_option maxHeartbeats 4000000 in
set_option maxRecDepth 100000 in
theorem kI_X5 (l : Launch) (G : GG) {I : ix → Prop} {ad : ix → Nat} {M : Mem} {F : Fm} {sz a : Nat} {s0 : Nat} (ha : ad (1, s0, 0, 0) = a) (hroot : I (1, s0, 0, 0)) (hM0 : M.1 (1, s0, 0, 0) = fun _ => 0) (hF0 : F (1, s0, 0, 0) = fun _ => none) (hfr : ∀ i, I i → (jT s0) i → i = (1, s0, 0, 0)) : Met l yX5_init (wW yX5_init cX5_init 2 none) rmI_X5 (iPc G I ad M F sz [.ref a]) (iQ G I ad (jU (jT s0) I) (jM (jT s0) M) (jF (jT s0) F) a sz) 157 744 (iA a sz) := by
  refine met_ofI (by decide +kernel) (Nat.le_of_ble_eq_true rfl) rfl (fun p e s m below meth c hsz C haK hin hP hS ls hl => ?_)
  have hx := C.1
  have hb := C.2.1
  have hown := C.2.2.2.1
  have hts := C.2.2.2.2.1
  have hA : ∀ q, s.heap.size ≤ q → iA a s.heap.size q := fun q h => Or.inr h
  have hI_t := hroot
  have hq_t := ha
  have hxt : ∀ j, I j → ad j = ad j := fun _ _ => rfl
  have hup : ∀ j, I j → I j := fun _ h => h
  have hnw : ∀ j, I j → ¬ I j → s.heap.size ≤ ad j := fun j h1 h2 => absurd h1 h2
  have hl : lv_has ls 2 [(0, .ref a)] := hl
  refine lv_aload_n (pc := 0) hx hb dX5_init_0 rfl (lv_at hl 0 rfl) ?_
  refine r2_obj (pc := 1) C hl.1 mw_81 mw_74 mw_75 dX5_init_1 (Nat.le_of_ble_eq_true rfl) (Nat.le_of_ble_eq_true rfl) ?_
  refine lv_aload_n (pc := 4) hx hb dX5_init_4 rfl (lv_at hl 0 rfl) ?_
  refine lv_bipush (pc := 5) (v := (6 : Int32)) hx hb dX5_init_5 (by decide) ?_
  have hf5 : ∀ i, I i → ¬ (jO (2, s0, 0, 0)) i := by
    intro i hi hJ
    have hJ2 : (jT s0) i := (Or.inr (Or.inl hJ))
    have he := hfr i hi hJ2
    subst he
    simp [jO] at hJ
  refine r2_anew (pc := 7) (i := (2, s0, 0, 0)) (t0 := 3) (A := iA a s.heap.size) C hP hS (fun h => hf5 _ h rfl) (show (2 : Nat) ≠ 27 by decide) rfl rfl haK.1 mw_82 (by decide) (by decide) (Nat.le_of_ble_eq_true rfl) (Nat.le_of_ble_eq_true rfl) (Nat.le_of_ble_eq_true rfl) dX5_init_7 (fun q5 ad5 H e5 hx5 hz5 hP hS => ?_)
  replace hP : w2 G (jU (jO (2, s0, 0, 0)) I) ad5 (jM (jO (2, s0, 0, 0)) M) (nF F (2, s0, 0, 0)) H := by rw [← jM_one (i := (2, s0, 0, 0)) rfl]; exact hP
  replace hq_t := (hx5 _ hI_t).trans hq_t
  replace hI_t : (jU (jO (2, s0, 0, 0)) I) (1, s0, 0, 0) := Or.inr hI_t
  replace hxt : ∀ j, I j → ad5 j = ad j := fun j hj => (hx5 j (hup j hj)).trans (hxt j hj)
  replace hup : ∀ j, I j → (jU (jO (2, s0, 0, 0)) I) j := fun j hj => Or.inr (hup j hj)
  replace hnw : ∀ j, (jU (jO (2, s0, 0, 0)) I) j → ¬ I j → s.heap.size ≤ ad5 j := fun j hj hn => hj.elim (fun h => by have h : j = (2, s0, 0, 0) := h; rw [h, e5]; exact hz5) (fun h => by rw [hx5 j h]; exact hnw j h hn)
  have hI_n5 : (jU (jO (2, s0, 0, 0)) I) (2, s0, 0, 0) := Or.inl rfl
  have hq_n5 := e5
  have hA_n5 : iA a s.heap.size q5 := Or.inr hz5
  refine pF_155 (pc := 10) C hin hP hS hI_t hI_n5 (Or.inl rfl) hq_t hq_n5 dX5_init_10 (fun H locs hP hS => ?_)
  refine lv_iconst (pc := 13) (v := (0 : Int32)) hx hb dX5_init_13 (by decide) ?_
  refine lv_istore_n (pc := 14) (lv' := [(1, .int (0 : Int32)), (0, .ref a)]) hx hb dX5_init_14 rfl hl (by decide) rfl (fun ls hl => ?_)
  refine lv_iload_n (pc := 15) hx hb dX5_init_15 rfl (lv_at hl 0 rfl) ?_
  refine lv_bipush (pc := 16) (v := (6 : Int32)) hx hb dX5_init_16 (by decide) ?_
  refine lv_icmp_ge (pc := 18) (tgt := 40) hx hb dX5_init_18 (by decide) (fun h => absurd h (by decide)) (fun _ => ?_)
  refine lv_aload_n (pc := 21) hx hb dX5_init_21 rfl (lv_at hl 1 rfl) ?_
  refine gR_155 (pc := 22) C hP hI_t hq_t (by simp [fu, nF, jF, jO, jS, jB, jC, jT, jK, cif_true, cif_false]) hq_n5 dX5_init_22 ?_
  refine lv_iload_n (pc := 25) hx hb dX5_init_25 rfl (lv_at hl 0 rfl) ?_
  have hf15 : ∀ i, (jU (jO (2, s0, 0, 0)) I) i → ¬ (jB s0 0) i := by
    intro i hi hJ
    have hJ2 : (jT s0) i := (Or.inr (Or.inr ⟨0, by decide, hJ⟩))
    rcases hi with hi | hi
    · have h1 := jO_r hi; have h2 := jB_r hJ; (try dsimp only at h1); (try dsimp only at h2); omega
    · have he := hfr i hi hJ2
      subst he
      simp [jB, jC, jS] at hJ
  refine nw_X5_9 (pc := 26) (A := iA a s.heap.size) C hP hS (fun h => hf15 _ h (Or.inl rfl)) (Nat.le_of_ble_eq_true rfl) (Nat.le_of_ble_eq_true rfl) dX5_init_26 (fun q15 ad15 H e15 hx15 hz15 hP hS => ?_)
  refine lv_dup (pc := 29) hx hb dX5_init_29 rfl ?_
  refine r2_cI (pc := 30) (rest := [.ref q15, .int (0 : Int32), .ref q5]) (As := []) C haK hl.1 hP hS hA (Or.inr hz15) (kI_X0 l G e15 (Or.inl rfl) (mr_at _ _ _) (if_pos rfl) (fun i hi hJ => hi.elim id (fun h => absurd hJ (hf15 i h)))) mw_85 mw_86 mw_58 mw_87 ⟨rfl, rfl⟩ rfl hd_X0_init rfl rfl ⟨Nat.le_of_ble_eq_true rfl, Nat.le_of_ble_eq_true rfl⟩ (Nat.le_of_ble_eq_true rfl) ⟨Nat.le_of_ble_eq_true rfl, Nat.le_of_ble_eq_true rfl⟩ dX5_init_30 (fun ad17 H locs hx17 hnn hP hS => ?_)
  replace hP := hP.root (Or.inl rfl)
  replace hq_t := ((hx17 _ (Or.inr hI_t)).trans (hx15 _ hI_t)).trans hq_t
  replace hI_t : (jU (jB s0 0) (jU (jO (2, s0, 0, 0)) I)) (1, s0, 0, 0) := Or.inr hI_t
  replace hq_n5 := ((hx17 _ (Or.inr hI_n5)).trans (hx15 _ hI_n5)).trans hq_n5
  replace hI_n5 : (jU (jB s0 0) (jU (jO (2, s0, 0, 0)) I)) (2, s0, 0, 0) := Or.inr hI_n5
  replace hnw : ∀ j, (jU (jB s0 0) (jU (jO (2, s0, 0, 0)) I)) j → ¬ I j → s.heap.size ≤ ad17 j := by
    intro j hj hn
    by_cases e9 : iI (jU (jO (2, s0, 0, 0)) I) (3, s0, 0, 0) j
    · rw [hx17 j e9]
      rcases e9 with e9 | e9
      · rw [e9, e15]; exact hz15
      · rw [hx15 j e9]; exact hnw j e9 hn
    · exact hnn j (hj.elim Or.inl (fun h => Or.inr (Or.inr h))) e9
  replace hxt : ∀ j, I j → ad17 j = ad j := fun j hj => ((hx17 j (Or.inr (hup j hj))).trans (hx15 j (hup j hj))).trans (hxt j hj)
  replace hup : ∀ j, I j → (jU (jB s0 0) (jU (jO (2, s0, 0, 0)) I)) j := fun j hj => Or.inr (hup j hj)
  have hI_n15 : (jU (jB s0 0) (jU (jO (2, s0, 0, 0)) I)) (3, s0, 0, 0) := Or.inl (Or.inl rfl)
  have hq_n15 := (hx17 _ (Or.inl rfl)).trans e15
  refine r2_aast (pc := 33) (n := 6) (t0 := 3) (ci := 0) (A := iA a s.heap.size) C hP hS hI_n5 hI_n15 (by rw [hq_n5]; exact hA_n5) (fun _ => rfl) rfl rfl rfl (x := (0 : Int32)) (vpc (by decide)) (k := 0) (by decide) hq_n5 hq_n15 dX5_init_33 (fun H locs hP hS => ?_)
  refine lv_iinc (pc := 34) (v := (1 : Int32)) (lv' := [(1, .int (1 : Int32)), (0, .ref a)]) hx hb dX5_init_34 hl (k := 0) rfl (by decide) (by decide) rfl (fun ls hl => ?_)
  refine lv_goto (pc := 37) (tgt := 15) hx hb dX5_init_37 (by decide) ?_
  refine lv_iload_n (pc := 15) hx hb dX5_init_15 rfl (lv_at hl 0 rfl) ?_
  refine lv_bipush (pc := 16) (v := (6 : Int32)) hx hb dX5_init_16 (by decide) ?_
  refine lv_icmp_ge (pc := 18) (tgt := 40) hx hb dX5_init_18 (by decide) (fun h => absurd h (by decide)) (fun _ => ?_)
  refine lv_aload_n (pc := 21) hx hb dX5_init_21 rfl (lv_at hl 1 rfl) ?_
  refine gR_155 (pc := 22) C hP hI_t hq_t (by simp [fu, nF, jF, jO, jS, jB, jC, jT, jK, cif_true, cif_false]) hq_n5 dX5_init_22 ?_
  refine lv_iload_n (pc := 25) hx hb dX5_init_25 rfl (lv_at hl 0 rfl) ?_
  have hf27 : ∀ i, (jU (jB s0 0) (jU (jO (2, s0, 0, 0)) I)) i → ¬ (jB s0 1) i := by
    intro i hi hJ
    have hJ2 : (jT s0) i := (Or.inr (Or.inr ⟨1, by decide, hJ⟩))
    rcases hi with hi | hi | hi
    · have h1 := jB_r hi; have h2 := jB_r hJ; (try dsimp only at h1); (try dsimp only at h2); omega
    · have h1 := jO_r hi; have h2 := jB_r hJ; (try dsimp only at h1); (try dsimp only at h2); omega
    · have he := hfr i hi hJ2
      subst he
      simp [jB, jC, jS] at hJ
  refine nw_X5_9 (pc := 26) (A := iA a s.heap.size) C hP hS (fun h => hf27 _ h (Or.inl rfl)) (Nat.le_of_ble_eq_true rfl) (Nat.le_of_ble_eq_true rfl) dX5_init_26 (fun q27 ad27 H e27 hx27 hz27 hP hS => ?_)
  refine lv_dup (pc := 29) hx hb dX5_init_29 rfl ?_
  refine r2_cI (pc := 30) (rest := [.ref q27, .int (1 : Int32), .ref q5]) (As := []) C haK hl.1 hP hS hA (Or.inr hz27) (kI_X0 l G e27 (Or.inl rfl) (mr_at _ _ _) (if_pos rfl) (fun i hi hJ => hi.elim id (fun h => absurd hJ (hf27 i h)))) mw_85 mw_86 mw_58 mw_87 ⟨rfl, rfl⟩ rfl hd_X0_init rfl rfl ⟨Nat.le_of_ble_eq_true rfl, Nat.le_of_ble_eq_true rfl⟩ (Nat.le_of_ble_eq_true rfl) ⟨Nat.le_of_ble_eq_true rfl, Nat.le_of_ble_eq_true rfl⟩ dX5_init_30 (fun ad29 H locs hx29 hnn hP hS => ?_)
  replace hP := hP.root (Or.inl rfl)
  replace hq_t := ((hx29 _ (Or.inr hI_t)).trans (hx27 _ hI_t)).trans hq_t
  replace hI_t : (jU (jB s0 1) (jU (jB s0 0) (jU (jO (2, s0, 0, 0)) I))) (1, s0, 0, 0) := Or.inr hI_t
  replace hq_n5 := ((hx29 _ (Or.inr hI_n5)).trans (hx27 _ hI_n5)).trans hq_n5
  replace hI_n5 : (jU (jB s0 1) (jU (jB s0 0) (jU (jO (2, s0, 0, 0)) I))) (2, s0, 0, 0) := Or.inr hI_n5
  replace hq_n15 := ((hx29 _ (Or.inr hI_n15)).trans (hx27 _ hI_n15)).trans hq_n15
  replace hI_n15 : (jU (jB s0 1) (jU (jB s0 0) (jU (jO (2, s0, 0, 0)) I))) (3, s0, 0, 0) := Or.inr hI_n15
  replace hnw : ∀ j, (jU (jB s0 1) (jU (jB s0 0) (jU (jO (2, s0, 0, 0)) I))) j → ¬ I j → s.heap.size ≤ ad29 j := by
    intro j hj hn
    by_cases e9 : iI (jU (jB s0 0) (jU (jO (2, s0, 0, 0)) I)) (3, s0, 1, 0) j
    · rw [hx29 j e9]
      rcases e9 with e9 | e9
      · rw [e9, e27]; exact hz27
      · rw [hx27 j e9]; exact hnw j e9 hn
    · exact hnn j (hj.elim Or.inl (fun h => Or.inr (Or.inr h))) e9
  replace hxt : ∀ j, I j → ad29 j = ad j := fun j hj => ((hx29 j (Or.inr (hup j hj))).trans (hx27 j (hup j hj))).trans (hxt j hj)
  replace hup : ∀ j, I j → (jU (jB s0 1) (jU (jB s0 0) (jU (jO (2, s0, 0, 0)) I))) j := fun j hj => Or.inr (hup j hj)
  have hI_n27 : (jU (jB s0 1) (jU (jB s0 0) (jU (jO (2, s0, 0, 0)) I))) (3, s0, 1, 0) := Or.inl (Or.inl rfl)
  have hq_n27 := (hx29 _ (Or.inl rfl)).trans e27
  refine r2_aast (pc := 33) (n := 6) (t0 := 3) (ci := 0) (A := iA a s.heap.size) C hP hS hI_n5 hI_n27 (by rw [hq_n5]; exact hA_n5) (fun _ => rfl) rfl rfl rfl (x := (1 : Int32)) (vpc (by decide)) (k := 1) (by decide) hq_n5 hq_n27 dX5_init_33 (fun H locs hP hS => ?_)
  refine lv_iinc (pc := 34) (v := (2 : Int32)) (lv' := [(1, .int (2 : Int32)), (0, .ref a)]) hx hb dX5_init_34 hl (k := 0) rfl (by decide) (by decide) rfl (fun ls hl => ?_)
  refine lv_goto (pc := 37) (tgt := 15) hx hb dX5_init_37 (by decide) ?_
  refine lv_iload_n (pc := 15) hx hb dX5_init_15 rfl (lv_at hl 0 rfl) ?_
  refine lv_bipush (pc := 16) (v := (6 : Int32)) hx hb dX5_init_16 (by decide) ?_
  refine lv_icmp_ge (pc := 18) (tgt := 40) hx hb dX5_init_18 (by decide) (fun h => absurd h (by decide)) (fun _ => ?_)
  refine lv_aload_n (pc := 21) hx hb dX5_init_21 rfl (lv_at hl 1 rfl) ?_
  refine gR_155 (pc := 22) C hP hI_t hq_t (by simp [fu, nF, jF, jO, jS, jB, jC, jT, jK, cif_true, cif_false]) hq_n5 dX5_init_22 ?_
  refine lv_iload_n (pc := 25) hx hb dX5_init_25 rfl (lv_at hl 0 rfl) ?_
  have hf39 : ∀ i, (jU (jB s0 1) (jU (jB s0 0) (jU (jO (2, s0, 0, 0)) I))) i → ¬ (jB s0 2) i := by
    intro i hi hJ
    have hJ2 : (jT s0) i := (Or.inr (Or.inr ⟨2, by decide, hJ⟩))
    rcases hi with hi | hi | hi | hi
    · have h1 := jB_r hi; have h2 := jB_r hJ; (try dsimp only at h1); (try dsimp only at h2); omega
    · have h1 := jB_r hi; have h2 := jB_r hJ; (try dsimp only at h1); (try dsimp only at h2); omega
    · have h1 := jO_r hi; have h2 := jB_r hJ; (try dsimp only at h1); (try dsimp only at h2); omega
    · have he := hfr i hi hJ2
      subst he
      simp [jB, jC, jS] at hJ
  refine nw_X5_9 (pc := 26) (A := iA a s.heap.size) C hP hS (fun h => hf39 _ h (Or.inl rfl)) (Nat.le_of_ble_eq_true rfl) (Nat.le_of_ble_eq_true rfl) dX5_init_26 (fun q39 ad39 H e39 hx39 hz39 hP hS => ?_)
  refine lv_dup (pc := 29) hx hb dX5_init_29 rfl ?_
  refine r2_cI (pc := 30) (rest := [.ref q39, .int (2 : Int32), .ref q5]) (As := []) C haK hl.1 hP hS hA (Or.inr hz39) (kI_X0 l G e39 (Or.inl rfl) (mr_at _ _ _) (if_pos rfl) (fun i hi hJ => hi.elim id (fun h => absurd hJ (hf39 i h)))) mw_85 mw_86 mw_58 mw_87 ⟨rfl, rfl⟩ rfl hd_X0_init rfl rfl ⟨Nat.le_of_ble_eq_true rfl, Nat.le_of_ble_eq_true rfl⟩ (Nat.le_of_ble_eq_true rfl) ⟨Nat.le_of_ble_eq_true rfl, Nat.le_of_ble_eq_true rfl⟩ dX5_init_30 (fun ad41 H locs hx41 hnn hP hS => ?_)
  replace hP := hP.root (Or.inl rfl)
  replace hq_t := ((hx41 _ (Or.inr hI_t)).trans (hx39 _ hI_t)).trans hq_t
  replace hI_t : (jU (jB s0 2) (jU (jB s0 1) (jU (jB s0 0) (jU (jO (2, s0, 0, 0)) I)))) (1, s0, 0, 0) := Or.inr hI_t
  replace hq_n5 := ((hx41 _ (Or.inr hI_n5)).trans (hx39 _ hI_n5)).trans hq_n5
  replace hI_n5 : (jU (jB s0 2) (jU (jB s0 1) (jU (jB s0 0) (jU (jO (2, s0, 0, 0)) I)))) (2, s0, 0, 0) := Or.inr hI_n5
  replace hq_n15 := ((hx41 _ (Or.inr hI_n15)).trans (hx39 _ hI_n15)).trans hq_n15
  replace hI_n15 : (jU (jB s0 2) (jU (jB s0 1) (jU (jB s0 0) (jU (jO (2, s0, 0, 0)) I)))) (3, s0, 0, 0) := Or.inr hI_n15
  replace hq_n27 := ((hx41 _ (Or.inr hI_n27)).trans (hx39 _ hI_n27)).trans hq_n27
  replace hI_n27 : (jU (jB s0 2) (jU (jB s0 1) (jU (jB s0 0) (jU (jO (2, s0, 0, 0)) I)))) (3, s0, 1, 0) := Or.inr hI_n27
  replace hnw : ∀ j, (jU (jB s0 2) (jU (jB s0 1) (jU (jB s0 0) (jU (jO (2, s0, 0, 0)) I)))) j → ¬ I j → s.heap.size ≤ ad41 j := by
    intro j hj hn
    by_cases e9 : iI (jU (jB s0 1) (jU (jB s0 0) (jU (jO (2, s0, 0, 0)) I))) (3, s0, 2, 0) j
    · rw [hx41 j e9]
      rcases e9 with e9 | e9
      · rw [e9, e39]; exact hz39
      · rw [hx39 j e9]; exact hnw j e9 hn
    · exact hnn j (hj.elim Or.inl (fun h => Or.inr (Or.inr h))) e9
  replace hxt : ∀ j, I j → ad41 j = ad j := fun j hj => ((hx41 j (Or.inr (hup j hj))).trans (hx39 j (hup j hj))).trans (hxt j hj)
  replace hup : ∀ j, I j → (jU (jB s0 2) (jU (jB s0 1) (jU (jB s0 0) (jU (jO (2, s0, 0, 0)) I)))) j := fun j hj => Or.inr (hup j hj)
  have hI_n39 : (jU (jB s0 2) (jU (jB s0 1) (jU (jB s0 0) (jU (jO (2, s0, 0, 0)) I)))) (3, s0, 2, 0) := Or.inl (Or.inl rfl)
  have hq_n39 := (hx41 _ (Or.inl rfl)).trans e39
  refine r2_aast (pc := 33) (n := 6) (t0 := 3) (ci := 0) (A := iA a s.heap.size) C hP hS hI_n5 hI_n39 (by rw [hq_n5]; exact hA_n5) (fun _ => rfl) rfl rfl rfl (x := (2 : Int32)) (vpc (by decide)) (k := 2) (by decide) hq_n5 hq_n39 dX5_init_33 (fun H locs hP hS => ?_)
  refine lv_iinc (pc := 34) (v := (3 : Int32)) (lv' := [(1, .int (3 : Int32)), (0, .ref a)]) hx hb dX5_init_34 hl (k := 0) rfl (by decide) (by decide) rfl (fun ls hl => ?_)
  refine lv_goto (pc := 37) (tgt := 15) hx hb dX5_init_37 (by decide) ?_
  refine lv_iload_n (pc := 15) hx hb dX5_init_15 rfl (lv_at hl 0 rfl) ?_
  refine lv_bipush (pc := 16) (v := (6 : Int32)) hx hb dX5_init_16 (by decide) ?_
  refine lv_icmp_ge (pc := 18) (tgt := 40) hx hb dX5_init_18 (by decide) (fun h => absurd h (by decide)) (fun _ => ?_)
  refine lv_aload_n (pc := 21) hx hb dX5_init_21 rfl (lv_at hl 1 rfl) ?_
  refine gR_155 (pc := 22) C hP hI_t hq_t (by simp [fu, nF, jF, jO, jS, jB, jC, jT, jK, cif_true, cif_false]) hq_n5 dX5_init_22 ?_
  refine lv_iload_n (pc := 25) hx hb dX5_init_25 rfl (lv_at hl 0 rfl) ?_
  have hf51 : ∀ i, (jU (jB s0 2) (jU (jB s0 1) (jU (jB s0 0) (jU (jO (2, s0, 0, 0)) I)))) i → ¬ (jB s0 3) i := by
    intro i hi hJ
    have hJ2 : (jT s0) i := (Or.inr (Or.inr ⟨3, by decide, hJ⟩))
    rcases hi with hi | hi | hi | hi | hi
    · have h1 := jB_r hi; have h2 := jB_r hJ; (try dsimp only at h1); (try dsimp only at h2); omega
    · have h1 := jB_r hi; have h2 := jB_r hJ; (try dsimp only at h1); (try dsimp only at h2); omega
    · have h1 := jB_r hi; have h2 := jB_r hJ; (try dsimp only at h1); (try dsimp only at h2); omega
    · have h1 := jO_r hi; have h2 := jB_r hJ; (try dsimp only at h1); (try dsimp only at h2); omega
    · have he := hfr i hi hJ2
      subst he
      simp [jB, jC, jS] at hJ
  refine nw_X5_9 (pc := 26) (A := iA a s.heap.size) C hP hS (fun h => hf51 _ h (Or.inl rfl)) (Nat.le_of_ble_eq_true rfl) (Nat.le_of_ble_eq_true rfl) dX5_init_26 (fun q51 ad51 H e51 hx51 hz51 hP hS => ?_)
  refine lv_dup (pc := 29) hx hb dX5_init_29 rfl ?_
  refine r2_cI (pc := 30) (rest := [.ref q51, .int (3 : Int32), .ref q5]) (As := []) C haK hl.1 hP hS hA (Or.inr hz51) (kI_X0 l G e51 (Or.inl rfl) (mr_at _ _ _) (if_pos rfl) (fun i hi hJ => hi.elim id (fun h => absurd hJ (hf51 i h)))) mw_85 mw_86 mw_58 mw_87 ⟨rfl, rfl⟩ rfl hd_X0_init rfl rfl ⟨Nat.le_of_ble_eq_true rfl, Nat.le_of_ble_eq_true rfl⟩ (Nat.le_of_ble_eq_true rfl) ⟨Nat.le_of_ble_eq_true rfl, Nat.le_of_ble_eq_true rfl⟩ dX5_init_30 (fun ad53 H locs hx53 hnn hP hS => ?_)
  replace hP := hP.root (Or.inl rfl)
  replace hq_t := ((hx53 _ (Or.inr hI_t)).trans (hx51 _ hI_t)).trans hq_t
  replace hI_t : (jU (jB s0 3) (jU (jB s0 2) (jU (jB s0 1) (jU (jB s0 0) (jU (jO (2, s0, 0, 0)) I))))) (1, s0, 0, 0) := Or.inr hI_t
  replace hq_n5 := ((hx53 _ (Or.inr hI_n5)).trans (hx51 _ hI_n5)).trans hq_n5
  replace hI_n5 : (jU (jB s0 3) (jU (jB s0 2) (jU (jB s0 1) (jU (jB s0 0) (jU (jO (2, s0, 0, 0)) I))))) (2, s0, 0, 0) := Or.inr hI_n5
  replace hq_n15 := ((hx53 _ (Or.inr hI_n15)).trans (hx51 _ hI_n15)).trans hq_n15
  replace hI_n15 : (jU (jB s0 3) (jU (jB s0 2) (jU (jB s0 1) (jU (jB s0 0) (jU (jO (2, s0, 0, 0)) I))))) (3, s0, 0, 0) := Or.inr hI_n15
  replace hq_n27 := ((hx53 _ (Or.inr hI_n27)).trans (hx51 _ hI_n27)).trans hq_n27
  replace hI_n27 : (jU (jB s0 3) (jU (jB s0 2) (jU (jB s0 1) (jU (jB s0 0) (jU (jO (2, s0, 0, 0)) I))))) (3, s0, 1, 0) := Or.inr hI_n27
  replace hq_n39 := ((hx53 _ (Or.inr hI_n39)).trans (hx51 _ hI_n39)).trans hq_n39
  replace hI_n39 : (jU (jB s0 3) (jU (jB s0 2) (jU (jB s0 1) (jU (jB s0 0) (jU (jO (2, s0, 0, 0)) I))))) (3, s0, 2, 0) := Or.inr hI_n39
  replace hnw : ∀ j, (jU (jB s0 3) (jU (jB s0 2) (jU (jB s0 1) (jU (jB s0 0) (jU (jO (2, s0, 0, 0)) I))))) j → ¬ I j → s.heap.size ≤ ad53 j := by
    intro j hj hn
    by_cases e9 : iI (jU (jB s0 2) (jU (jB s0 1) (jU (jB s0 0) (jU (jO (2, s0, 0, 0)) I)))) (3, s0, 3, 0) j
    · rw [hx53 j e9]
      rcases e9 with e9 | e9
      · rw [e9, e51]; exact hz51
      · rw [hx51 j e9]; exact hnw j e9 hn
    · exact hnn j (hj.elim Or.inl (fun h => Or.inr (Or.inr h))) e9
  replace hxt : ∀ j, I j → ad53 j = ad j := fun j hj => ((hx53 j (Or.inr (hup j hj))).trans (hx51 j (hup j hj))).trans (hxt j hj)
  replace hup : ∀ j, I j → (jU (jB s0 3) (jU (jB s0 2) (jU (jB s0 1) (jU (jB s0 0) (jU (jO (2, s0, 0, 0)) I))))) j := fun j hj => Or.inr (hup j hj)
  have hI_n51 : (jU (jB s0 3) (jU (jB s0 2) (jU (jB s0 1) (jU (jB s0 0) (jU (jO (2, s0, 0, 0)) I))))) (3, s0, 3, 0) := Or.inl (Or.inl rfl)
  have hq_n51 := (hx53 _ (Or.inl rfl)).trans e51
  refine r2_aast (pc := 33) (n := 6) (t0 := 3) (ci := 0) (A := iA a s.heap.size) C hP hS hI_n5 hI_n51 (by rw [hq_n5]; exact hA_n5) (fun _ => rfl) rfl rfl rfl (x := (3 : Int32)) (vpc (by decide)) (k := 3) (by decide) hq_n5 hq_n51 dX5_init_33 (fun H locs hP hS => ?_)
  refine lv_iinc (pc := 34) (v := (4 : Int32)) (lv' := [(1, .int (4 : Int32)), (0, .ref a)]) hx hb dX5_init_34 hl (k := 0) rfl (by decide) (by decide) rfl (fun ls hl => ?_)
  refine lv_goto (pc := 37) (tgt := 15) hx hb dX5_init_37 (by decide) ?_
  refine lv_iload_n (pc := 15) hx hb dX5_init_15 rfl (lv_at hl 0 rfl) ?_
  refine lv_bipush (pc := 16) (v := (6 : Int32)) hx hb dX5_init_16 (by decide) ?_
  refine lv_icmp_ge (pc := 18) (tgt := 40) hx hb dX5_init_18 (by decide) (fun h => absurd h (by decide)) (fun _ => ?_)
  refine lv_aload_n (pc := 21) hx hb dX5_init_21 rfl (lv_at hl 1 rfl) ?_
  refine gR_155 (pc := 22) C hP hI_t hq_t (by simp [fu, nF, jF, jO, jS, jB, jC, jT, jK, cif_true, cif_false]) hq_n5 dX5_init_22 ?_
  refine lv_iload_n (pc := 25) hx hb dX5_init_25 rfl (lv_at hl 0 rfl) ?_
  have hf63 : ∀ i, (jU (jB s0 3) (jU (jB s0 2) (jU (jB s0 1) (jU (jB s0 0) (jU (jO (2, s0, 0, 0)) I))))) i → ¬ (jB s0 4) i := by
    intro i hi hJ
    have hJ2 : (jT s0) i := (Or.inr (Or.inr ⟨4, by decide, hJ⟩))
    rcases hi with hi | hi | hi | hi | hi | hi
    · have h1 := jB_r hi; have h2 := jB_r hJ; (try dsimp only at h1); (try dsimp only at h2); omega
    · have h1 := jB_r hi; have h2 := jB_r hJ; (try dsimp only at h1); (try dsimp only at h2); omega
    · have h1 := jB_r hi; have h2 := jB_r hJ; (try dsimp only at h1); (try dsimp only at h2); omega
    · have h1 := jB_r hi; have h2 := jB_r hJ; (try dsimp only at h1); (try dsimp only at h2); omega
    · have h1 := jO_r hi; have h2 := jB_r hJ; (try dsimp only at h1); (try dsimp only at h2); omega
    · have he := hfr i hi hJ2
      subst he
      simp [jB, jC, jS] at hJ
  refine nw_X5_9 (pc := 26) (A := iA a s.heap.size) C hP hS (fun h => hf63 _ h (Or.inl rfl)) (Nat.le_of_ble_eq_true rfl) (Nat.le_of_ble_eq_true rfl) dX5_init_26 (fun q63 ad63 H e63 hx63 hz63 hP hS => ?_)
  refine lv_dup (pc := 29) hx hb dX5_init_29 rfl ?_
  refine r2_cI (pc := 30) (rest := [.ref q63, .int (4 : Int32), .ref q5]) (As := []) C haK hl.1 hP hS hA (Or.inr hz63) (kI_X0 l G e63 (Or.inl rfl) (mr_at _ _ _) (if_pos rfl) (fun i hi hJ => hi.elim id (fun h => absurd hJ (hf63 i h)))) mw_85 mw_86 mw_58 mw_87 ⟨rfl, rfl⟩ rfl hd_X0_init rfl rfl ⟨Nat.le_of_ble_eq_true rfl, Nat.le_of_ble_eq_true rfl⟩ (Nat.le_of_ble_eq_true rfl) ⟨Nat.le_of_ble_eq_true rfl, Nat.le_of_ble_eq_true rfl⟩ dX5_init_30 (fun ad65 H locs hx65 hnn hP hS => ?_)
  replace hP := hP.root (Or.inl rfl)
  replace hq_t := ((hx65 _ (Or.inr hI_t)).trans (hx63 _ hI_t)).trans hq_t
  replace hI_t : (jU (jB s0 4) (jU (jB s0 3) (jU (jB s0 2) (jU (jB s0 1) (jU (jB s0 0) (jU (jO (2, s0, 0, 0)) I)))))) (1, s0, 0, 0) := Or.inr hI_t
  replace hq_n5 := ((hx65 _ (Or.inr hI_n5)).trans (hx63 _ hI_n5)).trans hq_n5
  replace hI_n5 : (jU (jB s0 4) (jU (jB s0 3) (jU (jB s0 2) (jU (jB s0 1) (jU (jB s0 0) (jU (jO (2, s0, 0, 0)) I)))))) (2, s0, 0, 0) := Or.inr hI_n5
  replace hq_n15 := ((hx65 _ (Or.inr hI_n15)).trans (hx63 _ hI_n15)).trans hq_n15
  replace hI_n15 : (jU (jB s0 4) (jU (jB s0 3) (jU (jB s0 2) (jU (jB s0 1) (jU (jB s0 0) (jU (jO (2, s0, 0, 0)) I)))))) (3, s0, 0, 0) := Or.inr hI_n15
  replace hq_n27 := ((hx65 _ (Or.inr hI_n27)).trans (hx63 _ hI_n27)).trans hq_n27
  replace hI_n27 : (jU (jB s0 4) (jU (jB s0 3) (jU (jB s0 2) (jU (jB s0 1) (jU (jB s0 0) (jU (jO (2, s0, 0, 0)) I)))))) (3, s0, 1, 0) := Or.inr hI_n27
  replace hq_n39 := ((hx65 _ (Or.inr hI_n39)).trans (hx63 _ hI_n39)).trans hq_n39
  replace hI_n39 : (jU (jB s0 4) (jU (jB s0 3) (jU (jB s0 2) (jU (jB s0 1) (jU (jB s0 0) (jU (jO (2, s0, 0, 0)) I)))))) (3, s0, 2, 0) := Or.inr hI_n39
  replace hq_n51 := ((hx65 _ (Or.inr hI_n51)).trans (hx63 _ hI_n51)).trans hq_n51
  replace hI_n51 : (jU (jB s0 4) (jU (jB s0 3) (jU (jB s0 2) (jU (jB s0 1) (jU (jB s0 0) (jU (jO (2, s0, 0, 0)) I)))))) (3, s0, 3, 0) := Or.inr hI_n51
  replace hnw : ∀ j, (jU (jB s0 4) (jU (jB s0 3) (jU (jB s0 2) (jU (jB s0 1) (jU (jB s0 0) (jU (jO (2, s0, 0, 0)) I)))))) j → ¬ I j → s.heap.size ≤ ad65 j := by
    intro j hj hn
    by_cases e9 : iI (jU (jB s0 3) (jU (jB s0 2) (jU (jB s0 1) (jU (jB s0 0) (jU (jO (2, s0, 0, 0)) I))))) (3, s0, 4, 0) j
    · rw [hx65 j e9]
      rcases e9 with e9 | e9
      · rw [e9, e63]; exact hz63
      · rw [hx63 j e9]; exact hnw j e9 hn
    · exact hnn j (hj.elim Or.inl (fun h => Or.inr (Or.inr h))) e9
  replace hxt : ∀ j, I j → ad65 j = ad j := fun j hj => ((hx65 j (Or.inr (hup j hj))).trans (hx63 j (hup j hj))).trans (hxt j hj)
  replace hup : ∀ j, I j → (jU (jB s0 4) (jU (jB s0 3) (jU (jB s0 2) (jU (jB s0 1) (jU (jB s0 0) (jU (jO (2, s0, 0, 0)) I)))))) j := fun j hj => Or.inr (hup j hj)
  have hI_n63 : (jU (jB s0 4) (jU (jB s0 3) (jU (jB s0 2) (jU (jB s0 1) (jU (jB s0 0) (jU (jO (2, s0, 0, 0)) I)))))) (3, s0, 4, 0) := Or.inl (Or.inl rfl)
  have hq_n63 := (hx65 _ (Or.inl rfl)).trans e63
  refine r2_aast (pc := 33) (n := 6) (t0 := 3) (ci := 0) (A := iA a s.heap.size) C hP hS hI_n5 hI_n63 (by rw [hq_n5]; exact hA_n5) (fun _ => rfl) rfl rfl rfl (x := (4 : Int32)) (vpc (by decide)) (k := 4) (by decide) hq_n5 hq_n63 dX5_init_33 (fun H locs hP hS => ?_)
  refine lv_iinc (pc := 34) (v := (5 : Int32)) (lv' := [(1, .int (5 : Int32)), (0, .ref a)]) hx hb dX5_init_34 hl (k := 0) rfl (by decide) (by decide) rfl (fun ls hl => ?_)
  refine lv_goto (pc := 37) (tgt := 15) hx hb dX5_init_37 (by decide) ?_
  refine lv_iload_n (pc := 15) hx hb dX5_init_15 rfl (lv_at hl 0 rfl) ?_
  refine lv_bipush (pc := 16) (v := (6 : Int32)) hx hb dX5_init_16 (by decide) ?_
  refine lv_icmp_ge (pc := 18) (tgt := 40) hx hb dX5_init_18 (by decide) (fun h => absurd h (by decide)) (fun _ => ?_)
  refine lv_aload_n (pc := 21) hx hb dX5_init_21 rfl (lv_at hl 1 rfl) ?_
  refine gR_155 (pc := 22) C hP hI_t hq_t (by simp [fu, nF, jF, jO, jS, jB, jC, jT, jK, cif_true, cif_false]) hq_n5 dX5_init_22 ?_
  refine lv_iload_n (pc := 25) hx hb dX5_init_25 rfl (lv_at hl 0 rfl) ?_
  have hf75 : ∀ i, (jU (jB s0 4) (jU (jB s0 3) (jU (jB s0 2) (jU (jB s0 1) (jU (jB s0 0) (jU (jO (2, s0, 0, 0)) I)))))) i → ¬ (jB s0 5) i := by
    intro i hi hJ
    have hJ2 : (jT s0) i := (Or.inr (Or.inr ⟨5, by decide, hJ⟩))
    rcases hi with hi | hi | hi | hi | hi | hi | hi
    · have h1 := jB_r hi; have h2 := jB_r hJ; (try dsimp only at h1); (try dsimp only at h2); omega
    · have h1 := jB_r hi; have h2 := jB_r hJ; (try dsimp only at h1); (try dsimp only at h2); omega
    · have h1 := jB_r hi; have h2 := jB_r hJ; (try dsimp only at h1); (try dsimp only at h2); omega
    · have h1 := jB_r hi; have h2 := jB_r hJ; (try dsimp only at h1); (try dsimp only at h2); omega
    · have h1 := jB_r hi; have h2 := jB_r hJ; (try dsimp only at h1); (try dsimp only at h2); omega
    · have h1 := jO_r hi; have h2 := jB_r hJ; (try dsimp only at h1); (try dsimp only at h2); omega
    · have he := hfr i hi hJ2
      subst he
      simp [jB, jC, jS] at hJ
  refine nw_X5_9 (pc := 26) (A := iA a s.heap.size) C hP hS (fun h => hf75 _ h (Or.inl rfl)) (Nat.le_of_ble_eq_true rfl) (Nat.le_of_ble_eq_true rfl) dX5_init_26 (fun q75 ad75 H e75 hx75 hz75 hP hS => ?_)
  refine lv_dup (pc := 29) hx hb dX5_init_29 rfl ?_
  refine r2_cI (pc := 30) (rest := [.ref q75, .int (5 : Int32), .ref q5]) (As := []) C haK hl.1 hP hS hA (Or.inr hz75) (kI_X0 l G e75 (Or.inl rfl) (mr_at _ _ _) (if_pos rfl) (fun i hi hJ => hi.elim id (fun h => absurd hJ (hf75 i h)))) mw_85 mw_86 mw_58 mw_87 ⟨rfl, rfl⟩ rfl hd_X0_init rfl rfl ⟨Nat.le_of_ble_eq_true rfl, Nat.le_of_ble_eq_true rfl⟩ (Nat.le_of_ble_eq_true rfl) ⟨Nat.le_of_ble_eq_true rfl, Nat.le_of_ble_eq_true rfl⟩ dX5_init_30 (fun ad77 H locs hx77 hnn hP hS => ?_)
  replace hP := hP.root (Or.inl rfl)
  replace hq_t := ((hx77 _ (Or.inr hI_t)).trans (hx75 _ hI_t)).trans hq_t
  replace hI_t : (jU (jB s0 5) (jU (jB s0 4) (jU (jB s0 3) (jU (jB s0 2) (jU (jB s0 1) (jU (jB s0 0) (jU (jO (2, s0, 0, 0)) I))))))) (1, s0, 0, 0) := Or.inr hI_t
  replace hq_n5 := ((hx77 _ (Or.inr hI_n5)).trans (hx75 _ hI_n5)).trans hq_n5
  replace hI_n5 : (jU (jB s0 5) (jU (jB s0 4) (jU (jB s0 3) (jU (jB s0 2) (jU (jB s0 1) (jU (jB s0 0) (jU (jO (2, s0, 0, 0)) I))))))) (2, s0, 0, 0) := Or.inr hI_n5
  replace hq_n15 := ((hx77 _ (Or.inr hI_n15)).trans (hx75 _ hI_n15)).trans hq_n15
  replace hI_n15 : (jU (jB s0 5) (jU (jB s0 4) (jU (jB s0 3) (jU (jB s0 2) (jU (jB s0 1) (jU (jB s0 0) (jU (jO (2, s0, 0, 0)) I))))))) (3, s0, 0, 0) := Or.inr hI_n15
  replace hq_n27 := ((hx77 _ (Or.inr hI_n27)).trans (hx75 _ hI_n27)).trans hq_n27
  replace hI_n27 : (jU (jB s0 5) (jU (jB s0 4) (jU (jB s0 3) (jU (jB s0 2) (jU (jB s0 1) (jU (jB s0 0) (jU (jO (2, s0, 0, 0)) I))))))) (3, s0, 1, 0) := Or.inr hI_n27
  replace hq_n39 := ((hx77 _ (Or.inr hI_n39)).trans (hx75 _ hI_n39)).trans hq_n39
  replace hI_n39 : (jU (jB s0 5) (jU (jB s0 4) (jU (jB s0 3) (jU (jB s0 2) (jU (jB s0 1) (jU (jB s0 0) (jU (jO (2, s0, 0, 0)) I))))))) (3, s0, 2, 0) := Or.inr hI_n39
  replace hq_n51 := ((hx77 _ (Or.inr hI_n51)).trans (hx75 _ hI_n51)).trans hq_n51
  replace hI_n51 : (jU (jB s0 5) (jU (jB s0 4) (jU (jB s0 3) (jU (jB s0 2) (jU (jB s0 1) (jU (jB s0 0) (jU (jO (2, s0, 0, 0)) I))))))) (3, s0, 3, 0) := Or.inr hI_n51
  replace hq_n63 := ((hx77 _ (Or.inr hI_n63)).trans (hx75 _ hI_n63)).trans hq_n63
  replace hI_n63 : (jU (jB s0 5) (jU (jB s0 4) (jU (jB s0 3) (jU (jB s0 2) (jU (jB s0 1) (jU (jB s0 0) (jU (jO (2, s0, 0, 0)) I))))))) (3, s0, 4, 0) := Or.inr hI_n63
  replace hnw : ∀ j, (jU (jB s0 5) (jU (jB s0 4) (jU (jB s0 3) (jU (jB s0 2) (jU (jB s0 1) (jU (jB s0 0) (jU (jO (2, s0, 0, 0)) I))))))) j → ¬ I j → s.heap.size ≤ ad77 j := by
    intro j hj hn
    by_cases e9 : iI (jU (jB s0 4) (jU (jB s0 3) (jU (jB s0 2) (jU (jB s0 1) (jU (jB s0 0) (jU (jO (2, s0, 0, 0)) I)))))) (3, s0, 5, 0) j
    · rw [hx77 j e9]
      rcases e9 with e9 | e9
      · rw [e9, e75]; exact hz75
      · rw [hx75 j e9]; exact hnw j e9 hn
    · exact hnn j (hj.elim Or.inl (fun h => Or.inr (Or.inr h))) e9
  replace hxt : ∀ j, I j → ad77 j = ad j := fun j hj => ((hx77 j (Or.inr (hup j hj))).trans (hx75 j (hup j hj))).trans (hxt j hj)
  replace hup : ∀ j, I j → (jU (jB s0 5) (jU (jB s0 4) (jU (jB s0 3) (jU (jB s0 2) (jU (jB s0 1) (jU (jB s0 0) (jU (jO (2, s0, 0, 0)) I))))))) j := fun j hj => Or.inr (hup j hj)
  have hI_n75 : (jU (jB s0 5) (jU (jB s0 4) (jU (jB s0 3) (jU (jB s0 2) (jU (jB s0 1) (jU (jB s0 0) (jU (jO (2, s0, 0, 0)) I))))))) (3, s0, 5, 0) := Or.inl (Or.inl rfl)
  have hq_n75 := (hx77 _ (Or.inl rfl)).trans e75
  refine r2_aast (pc := 33) (n := 6) (t0 := 3) (ci := 0) (A := iA a s.heap.size) C hP hS hI_n5 hI_n75 (by rw [hq_n5]; exact hA_n5) (fun _ => rfl) rfl rfl rfl (x := (5 : Int32)) (vpc (by decide)) (k := 5) (by decide) hq_n5 hq_n75 dX5_init_33 (fun H locs hP hS => ?_)
  refine lv_iinc (pc := 34) (v := (6 : Int32)) (lv' := [(1, .int (6 : Int32)), (0, .ref a)]) hx hb dX5_init_34 hl (k := 0) rfl (by decide) (by decide) rfl (fun ls hl => ?_)
  refine lv_goto (pc := 37) (tgt := 15) hx hb dX5_init_37 (by decide) ?_
  refine lv_iload_n (pc := 15) hx hb dX5_init_15 rfl (lv_at hl 0 rfl) ?_
  refine lv_bipush (pc := 16) (v := (6 : Int32)) hx hb dX5_init_16 (by decide) ?_
  refine lv_icmp_ge (pc := 18) (tgt := 40) hx hb dX5_init_18 (by decide) (fun _ => ?_) (fun h => absurd (by decide) h)
  have hIf : ∀ j, jU (jT s0) I j ↔ (jU (jB s0 5) (jU (jB s0 4) (jU (jB s0 3) (jU (jB s0 2) (jU (jB s0 1) (jU (jB s0 0) (jU (jO (2, s0, 0, 0)) I))))))) j := by
    intro j
    constructor
    · rintro (hj | hj)
      · skip
        rcases hj with rfl | rfl | ⟨c, hc, hj⟩
        · exact hup _ hroot
        · exact (Or.inr (Or.inr (Or.inr (Or.inr (Or.inr (Or.inr (Or.inl rfl)))))))
        · rcases (show c = 0 ∨ c = 1 ∨ c = 2 ∨ c = 3 ∨ c = 4 ∨ c = 5 by omega) with rfl | rfl | rfl | rfl | rfl | rfl
          · exact (Or.inr (Or.inr (Or.inr (Or.inr (Or.inr (Or.inl hj))))))
          · exact (Or.inr (Or.inr (Or.inr (Or.inr (Or.inl hj)))))
          · exact (Or.inr (Or.inr (Or.inr (Or.inl hj))))
          · exact (Or.inr (Or.inr (Or.inl hj)))
          · exact (Or.inr (Or.inl hj))
          · exact (Or.inl hj)
      · exact hup j hj
    · rintro (hj | hj | hj | hj | hj | hj | hj | hj)
      · exact Or.inl (Or.inr (Or.inr ⟨5, by decide, hj⟩))
      · exact Or.inl (Or.inr (Or.inr ⟨4, by decide, hj⟩))
      · exact Or.inl (Or.inr (Or.inr ⟨3, by decide, hj⟩))
      · exact Or.inl (Or.inr (Or.inr ⟨2, by decide, hj⟩))
      · exact Or.inl (Or.inr (Or.inr ⟨1, by decide, hj⟩))
      · exact Or.inl (Or.inr (Or.inr ⟨0, by decide, hj⟩))
      · exact Or.inl (Or.inr (Or.inl hj))
      · exact Or.inr hj
  have hMf : ∀ j, (jT s0) j → (jM (jB s0 5) (jM (jB s0 4) (jM (jB s0 3) (jM (jB s0 2) (jM (jB s0 1) (jM (jB s0 0) (jM (jO (2, s0, 0, 0)) M))))))).1 j = m0 j := by
    intro j hj
    rcases hj with rfl | rfl | ⟨c, hc, hj⟩
    · exact (jM_in (Or.inr (jM_in (Or.inr (jM_in (Or.inr (jM_in (Or.inr (jM_in (Or.inr (jM_in (Or.inr (jM_in (Or.inr (hM0.trans rfl)))))))))))))))
    · exact (jM_in (Or.inr (jM_in (Or.inr (jM_in (Or.inr (jM_in (Or.inr (jM_in (Or.inr (jM_in (Or.inr (jM_in (Or.inl rfl))))))))))))))
    · rcases (show c = 0 ∨ c = 1 ∨ c = 2 ∨ c = 3 ∨ c = 4 ∨ c = 5 by omega) with rfl | rfl | rfl | rfl | rfl | rfl
      · exact (jM_in (Or.inr (jM_in (Or.inr (jM_in (Or.inr (jM_in (Or.inr (jM_in (Or.inr (jM_in (Or.inl hj))))))))))))
      · exact (jM_in (Or.inr (jM_in (Or.inr (jM_in (Or.inr (jM_in (Or.inr (jM_in (Or.inl hj))))))))))
      · exact (jM_in (Or.inr (jM_in (Or.inr (jM_in (Or.inr (jM_in (Or.inl hj))))))))
      · exact (jM_in (Or.inr (jM_in (Or.inr (jM_in (Or.inl hj))))))
      · exact (jM_in (Or.inr (jM_in (Or.inl hj))))
      · exact (jM_in (Or.inl hj))
  have hMo : ∀ j, I j → ¬ (jT s0) j → (jM (jB s0 5) (jM (jB s0 4) (jM (jB s0 3) (jM (jB s0 2) (jM (jB s0 1) (jM (jB s0 0) (jM (jO (2, s0, 0, 0)) M))))))).1 j = M.1 j := by
    intro j hj hn
    rw [jM_ne (J := (jB s0 5)) (fun h => hn (Or.inr (Or.inr ⟨5, by decide, h⟩)))]
    rw [jM_ne (J := (jB s0 4)) (fun h => hn (Or.inr (Or.inr ⟨4, by decide, h⟩)))]
    rw [jM_ne (J := (jB s0 3)) (fun h => hn (Or.inr (Or.inr ⟨3, by decide, h⟩)))]
    rw [jM_ne (J := (jB s0 2)) (fun h => hn (Or.inr (Or.inr ⟨2, by decide, h⟩)))]
    rw [jM_ne (J := (jB s0 1)) (fun h => hn (Or.inr (Or.inr ⟨1, by decide, h⟩)))]
    rw [jM_ne (J := (jB s0 0)) (fun h => hn (Or.inr (Or.inr ⟨0, by decide, h⟩)))]
    rw [jM_ne (J := (jO (2, s0, 0, 0))) (fun h => hn (Or.inr (Or.inl h)))]
  have hWf : (jM (jB s0 5) (jM (jB s0 4) (jM (jB s0 3) (jM (jB s0 2) (jM (jB s0 1) (jM (jB s0 0) (jM (jO (2, s0, 0, 0)) M))))))).2 = M.2 := by rfl
  have hFf : ∀ j, (jT s0) j → (fu (jF (jB s0 5) (fu (jF (jB s0 4) (fu (jF (jB s0 3) (fu (jF (jB s0 2) (fu (jF (jB s0 1) (fu (jF (jB s0 0) (fu (nF F (2, s0, 0, 0)) (1, s0, 0, 0) 0 (2, s0, 0, 0))) (2, s0, 0, 0) 0 (3, s0, 0, 0))) (2, s0, 0, 0) 1 (3, s0, 1, 0))) (2, s0, 0, 0) 2 (3, s0, 2, 0))) (2, s0, 0, 0) 3 (3, s0, 3, 0))) (2, s0, 0, 0) 4 (3, s0, 4, 0))) (2, s0, 0, 0) 5 (3, s0, 5, 0)) j = f0 j := by
    intro j hj
    rcases hj with rfl | rfl | ⟨c, hc, hj⟩
    · funext q; simp [fu, nF, jF, jO, jS, jB, jC, jT, jK, cif_true, cif_false, f0, hF0] <;> grind
    · funext q; simp [fu, nF, jF, jO, jS, jB, jC, jT, jK, cif_true, cif_false, f0, hF0] <;> grind
    · rcases (show c = 0 ∨ c = 1 ∨ c = 2 ∨ c = 3 ∨ c = 4 ∨ c = 5 by omega) with rfl | rfl | rfl | rfl | rfl | rfl
      · exact (fu_in (by intro h9; rw [h9] at hj; simp [jB, jS] at hj) (jF_in (Or.inr (fu_in (by intro h9; rw [h9] at hj; simp [jB, jS] at hj) (jF_in (Or.inr (fu_in (by intro h9; rw [h9] at hj; simp [jB, jS] at hj) (jF_in (Or.inr (fu_in (by intro h9; rw [h9] at hj; simp [jB, jS] at hj) (jF_in (Or.inr (fu_in (by intro h9; rw [h9] at hj; simp [jB, jS] at hj) (jF_in (Or.inr (fu_in (by intro h9; rw [h9] at hj; simp [jB, jS] at hj) (jF_in (Or.inl hj))))))))))))))))))
      · exact (fu_in (by intro h9; rw [h9] at hj; simp [jB, jS] at hj) (jF_in (Or.inr (fu_in (by intro h9; rw [h9] at hj; simp [jB, jS] at hj) (jF_in (Or.inr (fu_in (by intro h9; rw [h9] at hj; simp [jB, jS] at hj) (jF_in (Or.inr (fu_in (by intro h9; rw [h9] at hj; simp [jB, jS] at hj) (jF_in (Or.inr (fu_in (by intro h9; rw [h9] at hj; simp [jB, jS] at hj) (jF_in (Or.inl hj)))))))))))))))
      · exact (fu_in (by intro h9; rw [h9] at hj; simp [jB, jS] at hj) (jF_in (Or.inr (fu_in (by intro h9; rw [h9] at hj; simp [jB, jS] at hj) (jF_in (Or.inr (fu_in (by intro h9; rw [h9] at hj; simp [jB, jS] at hj) (jF_in (Or.inr (fu_in (by intro h9; rw [h9] at hj; simp [jB, jS] at hj) (jF_in (Or.inl hj))))))))))))
      · exact (fu_in (by intro h9; rw [h9] at hj; simp [jB, jS] at hj) (jF_in (Or.inr (fu_in (by intro h9; rw [h9] at hj; simp [jB, jS] at hj) (jF_in (Or.inr (fu_in (by intro h9; rw [h9] at hj; simp [jB, jS] at hj) (jF_in (Or.inl hj)))))))))
      · exact (fu_in (by intro h9; rw [h9] at hj; simp [jB, jS] at hj) (jF_in (Or.inr (fu_in (by intro h9; rw [h9] at hj; simp [jB, jS] at hj) (jF_in (Or.inl hj))))))
      · exact (fu_in (by intro h9; rw [h9] at hj; simp [jB, jS] at hj) (jF_in (Or.inl hj)))
  have hFo : ∀ j, I j → ¬ (jT s0) j → (fu (jF (jB s0 5) (fu (jF (jB s0 4) (fu (jF (jB s0 3) (fu (jF (jB s0 2) (fu (jF (jB s0 1) (fu (jF (jB s0 0) (fu (nF F (2, s0, 0, 0)) (1, s0, 0, 0) 0 (2, s0, 0, 0))) (2, s0, 0, 0) 0 (3, s0, 0, 0))) (2, s0, 0, 0) 1 (3, s0, 1, 0))) (2, s0, 0, 0) 2 (3, s0, 2, 0))) (2, s0, 0, 0) 3 (3, s0, 3, 0))) (2, s0, 0, 0) 4 (3, s0, 4, 0))) (2, s0, 0, 0) 5 (3, s0, 5, 0)) j = F j := by
    intro j hj hn
    rw [fu_ne (fun e => hn (by rw [e]; simp [jT, jB, jS, jC]))]
    rw [jF_ne (J := (jB s0 5)) (fun h => hn (Or.inr (Or.inr ⟨5, by decide, h⟩)))]
    rw [fu_ne (fun e => hn (by rw [e]; simp [jT, jB, jS, jC]))]
    rw [jF_ne (J := (jB s0 4)) (fun h => hn (Or.inr (Or.inr ⟨4, by decide, h⟩)))]
    rw [fu_ne (fun e => hn (by rw [e]; simp [jT, jB, jS, jC]))]
    rw [jF_ne (J := (jB s0 3)) (fun h => hn (Or.inr (Or.inr ⟨3, by decide, h⟩)))]
    rw [fu_ne (fun e => hn (by rw [e]; simp [jT, jB, jS, jC]))]
    rw [jF_ne (J := (jB s0 2)) (fun h => hn (Or.inr (Or.inr ⟨2, by decide, h⟩)))]
    rw [fu_ne (fun e => hn (by rw [e]; simp [jT, jB, jS, jC]))]
    rw [jF_ne (J := (jB s0 1)) (fun h => hn (Or.inr (Or.inr ⟨1, by decide, h⟩)))]
    rw [fu_ne (fun e => hn (by rw [e]; simp [jT, jB, jS, jC]))]
    rw [jF_ne (J := (jB s0 0)) (fun h => hn (Or.inr (Or.inr ⟨0, by decide, h⟩)))]
    rw [fu_ne (fun e => hn (by rw [e]; simp [jT, jB, jS, jC]))]
    rw [nF_ne (fun e => hn (by rw [e]; simp [jT, jB, jS, jC]))]
  exact r2_ret (pc := 40) C (w2.fin (i := (1, s0, 0, 0)) (M := M) hP hIf hfr hMf hMo hWf hFf hFo) hxt (fun j hj hn => hnw j ((hIf j).mp hj) hn) hS (Nat.le_of_ble_eq_true rfl) (Nat.le_of_ble_eq_true rfl) dX5_init_40
abbrev rmI_X8 : Room := { frames := 4, cells := 177, slots := 1487, locals := 82 }
theorem hd_X8_init : yX8_init.cls ≠ "java/lang/invoke/MethodHandle" ∧ yX8_init.cls ≠ "java/lang/invoke/VarHandle" ∧ (parseMethodDescriptor yX8_init.desc).map (fun d => d.parameters.length) = some 0 := ⟨by decide +kernel, by decide +kernel, by decide +kernel⟩
set_option maxHeartbeats 4000000 in
set_option maxRecDepth 100000 in
theorem kI_X8 (l : Launch) (G : GG) {I : ix → Prop} {ad : ix → Nat} {M : Mem} {F : Fm} {sz a : Nat} (ha : ad (0, 0, 0, 0) = a) (hroot : I (0, 0, 0, 0)) (hM0 : M.1 (0, 0, 0, 0) = fun _ => 0) (hF0 : F (0, 0, 0, 0) = fun _ => none) (hfr : ∀ i, I i → jX i → i = (0, 0, 0, 0)) (h27 : ∀ j, I j → j.1 ≠ 27) : Met l yX8_init (wW yX8_init cX8_init 1 none) rmI_X8 (iPc G I ad M F sz [.ref a]) (iQ G I ad (jU jX I) (jM jX (M.1, fun _ => 0)) (jF jX F) a sz) 177 1487 (iA a sz) := by
  refine met_ofI (by decide +kernel) (Nat.le_of_ble_eq_true rfl) rfl (fun p e s m below meth c hsz C haK hin hP hS ls hl => ?_)
  have hx := C.1
  have hb := C.2.1
  have hown := C.2.2.2.1
  have hts := C.2.2.2.2.1
  have hA : ∀ q, s.heap.size ≤ q → iA a s.heap.size q := fun q h => Or.inr h
  have hI_t := hroot
  have hq_t := ha
  have hxt : ∀ j, I j → ad j = ad j := fun _ _ => rfl
  have hup : ∀ j, I j → I j := fun _ h => h
  have hnw : ∀ j, I j → ¬ I j → s.heap.size ≤ ad j := fun j h1 h2 => absurd h1 h2
  have hl : lv_has ls 1 [(0, .ref a)] := hl
  refine lv_aload_n (pc := 0) hx hb dX8_init_0 rfl (lv_at hl 0 rfl) ?_
  refine r2_obj (pc := 1) C hl.1 mw_73 mw_74 mw_75 dX8_init_1 (Nat.le_of_ble_eq_true rfl) (Nat.le_of_ble_eq_true rfl) ?_
  refine lv_aload_n (pc := 4) hx hb dX8_init_4 rfl (lv_at hl 0 rfl) ?_
  have hf4 : ∀ i, I i → ¬ (jT 0) i := by
    intro i hi hJ
    have hJ2 : jX i := (Or.inr (Or.inl hJ))
    have he := hfr i hi hJ2
    subst he
    simp [jB, jC, jS, jT] at hJ
  refine nw_X8_9 (pc := 5) (A := iA a s.heap.size) C hP hS (fun h => hf4 _ h (Or.inl rfl)) (Nat.le_of_ble_eq_true rfl) (Nat.le_of_ble_eq_true rfl) dX8_init_5 (fun q4 ad4 H e4 hx4 hz4 hP hS => ?_)
  refine lv_dup (pc := 8) hx hb dX8_init_8 rfl ?_
  refine r2_cI (pc := 9) (rest := [.ref q4, .ref a]) (As := []) C haK hl.1 hP hS hA (Or.inr hz4) (kI_X5 l G e4 (Or.inl rfl) (mr_at _ _ _) (if_pos rfl) (fun i hi hJ => hi.elim id (fun h => absurd hJ (hf4 i h)))) mw_78 mw_79 mw_57 mw_80 ⟨rfl, rfl⟩ rfl hd_X5_init rfl rfl ⟨Nat.le_of_ble_eq_true rfl, Nat.le_of_ble_eq_true rfl⟩ (Nat.le_of_ble_eq_true rfl) ⟨Nat.le_of_ble_eq_true rfl, Nat.le_of_ble_eq_true rfl⟩ dX8_init_9 (fun ad6 H locs hx6 hnn hP hS => ?_)
  replace hP := hP.root (Or.inl rfl)
  replace hq_t := ((hx6 _ (Or.inr hI_t)).trans (hx4 _ hI_t)).trans hq_t
  replace hI_t : (jU (jT 0) I) (0, 0, 0, 0) := Or.inr hI_t
  replace hnw : ∀ j, (jU (jT 0) I) j → ¬ I j → s.heap.size ≤ ad6 j := by
    intro j hj hn
    by_cases e9 : iI I (1, 0, 0, 0) j
    · rw [hx6 j e9]
      rcases e9 with e9 | e9
      · rw [e9, e4]; exact hz4
      · rw [hx4 j e9]; exact hnw j e9 hn
    · exact hnn j (hj.elim Or.inl (fun h => Or.inr (Or.inr h))) e9
  replace hxt : ∀ j, I j → ad6 j = ad j := fun j hj => ((hx6 j (Or.inr (hup j hj))).trans (hx4 j (hup j hj))).trans (hxt j hj)
  replace hup : ∀ j, I j → (jU (jT 0) I) j := fun j hj => Or.inr (hup j hj)
  have hI_n4 : (jU (jT 0) I) (1, 0, 0, 0) := Or.inl (Or.inl rfl)
  have hq_n4 := (hx6 _ (Or.inl rfl)).trans e4
  refine pF_294 (pc := 12) C hin hP hS hI_t hI_n4 (Or.inl rfl) hq_t hq_n4 dX8_init_12 (fun H locs hP hS => ?_)
  refine lv_aload_n (pc := 15) hx hb dX8_init_15 rfl (lv_at hl 0 rfl) ?_
  refine lv_iconst (pc := 16) (v := (2 : Int32)) hx hb dX8_init_16 (by decide) ?_
  have hf10 : ∀ i, (jU (jT 0) I) i → ¬ (jO (10, 0, 0, 0)) i := by
    intro i hi hJ
    have hJ2 : jX i := (Or.inr (Or.inr (Or.inl hJ)))
    rcases hi with hi | hi
    · have h1 := jT_r hi; have h2 := jO_r hJ; (try dsimp only at h1); (try dsimp only at h2); omega
    · have he := hfr i hi hJ2
      subst he
      simp [jO] at hJ
  refine r2_anew (pc := 17) (i := (10, 0, 0, 0)) (t0 := 4) (A := iA a s.heap.size) C hP hS (fun h => hf10 _ h rfl) (show (10 : Nat) ≠ 27 by decide) rfl rfl haK.2.1 mw_76 (by decide) (by decide) (Nat.le_of_ble_eq_true rfl) (Nat.le_of_ble_eq_true rfl) (Nat.le_of_ble_eq_true rfl) dX8_init_17 (fun q10 ad10 H e10 hx10 hz10 hP hS => ?_)
  replace hP := hP.toJ rfl rfl
  replace hq_t := (hx10 _ hI_t).trans hq_t
  replace hI_t : (jU (jO (10, 0, 0, 0)) (jU (jT 0) I)) (0, 0, 0, 0) := Or.inr hI_t
  replace hq_n4 := (hx10 _ hI_n4).trans hq_n4
  replace hI_n4 : (jU (jO (10, 0, 0, 0)) (jU (jT 0) I)) (1, 0, 0, 0) := Or.inr hI_n4
  replace hxt : ∀ j, I j → ad10 j = ad j := fun j hj => (hx10 j (hup j hj)).trans (hxt j hj)
  replace hup : ∀ j, I j → (jU (jO (10, 0, 0, 0)) (jU (jT 0) I)) j := fun j hj => Or.inr (hup j hj)
  replace hnw : ∀ j, (jU (jO (10, 0, 0, 0)) (jU (jT 0) I)) j → ¬ I j → s.heap.size ≤ ad10 j := fun j hj hn => hj.elim (fun h => by have h : j = (10, 0, 0, 0) := h; rw [h, e10]; exact hz10) (fun h => by rw [hx10 j h]; exact hnw j h hn)
  have hI_n10 : (jU (jO (10, 0, 0, 0)) (jU (jT 0) I)) (10, 0, 0, 0) := Or.inl rfl
  have hq_n10 := e10
  have hA_n10 : iA a s.heap.size q10 := Or.inr hz10
  refine pF_295 (pc := 20) C hin hP hS hI_t hI_n10 (Or.inl rfl) hq_t hq_n10 dX8_init_20 (fun H locs hP hS => ?_)
  refine lv_aload_n (pc := 23) hx hb dX8_init_23 rfl (lv_at hl 0 rfl) ?_
  have hf13 : ∀ i, (jU (jO (10, 0, 0, 0)) (jU (jT 0) I)) i → ¬ (jK 11 7) i := by
    intro i hi hJ
    have hJ2 : jX i := (Or.inr (Or.inr (Or.inr (Or.inl hJ))))
    rcases hi with hi | hi | hi
    · have h1 := jO_r hi; have h2 := jK_r hJ; (try dsimp only at h1); (try dsimp only at h2); omega
    · have h1 := jT_r hi; have h2 := jK_r hJ; (try dsimp only at h1); (try dsimp only at h2); omega
    · have he := hfr i hi hJ2
      subst he
      simp [jK] at hJ
  refine nw_X8_20 (pc := 24) (A := iA a s.heap.size) C hP hS (fun h => hf13 _ h ⟨11, by decide, by decide, rfl⟩) (Nat.le_of_ble_eq_true rfl) (Nat.le_of_ble_eq_true rfl) dX8_init_24 (fun q13 ad13 H e13 hx13 hz13 hP hS => ?_)
  refine lv_dup (pc := 27) hx hb dX8_init_27 rfl ?_
  refine r2_cI (pc := 28) (rest := [.ref q13, .ref a]) (As := []) C haK hl.1 hP hS hA (Or.inr hz13) (kI_X1 l G e13 (Or.inl rfl) (mr_at _ _ _) (if_pos rfl) (fun i hi hJ => hi.elim id (fun h => absurd hJ (hf13 i h)))) mw_163 mw_164 mw_60 mw_165 ⟨rfl, rfl⟩ rfl hd_X1_init rfl rfl ⟨Nat.le_of_ble_eq_true rfl, Nat.le_of_ble_eq_true rfl⟩ (Nat.le_of_ble_eq_true rfl) ⟨Nat.le_of_ble_eq_true rfl, Nat.le_of_ble_eq_true rfl⟩ dX8_init_28 (fun ad15 H locs hx15 hnn hP hS => ?_)
  replace hP := hP.root ⟨11, by decide, by decide, rfl⟩
  replace hq_t := ((hx15 _ (Or.inr hI_t)).trans (hx13 _ hI_t)).trans hq_t
  replace hI_t : (jU (jK 11 7) (jU (jO (10, 0, 0, 0)) (jU (jT 0) I))) (0, 0, 0, 0) := Or.inr hI_t
  replace hq_n4 := ((hx15 _ (Or.inr hI_n4)).trans (hx13 _ hI_n4)).trans hq_n4
  replace hI_n4 : (jU (jK 11 7) (jU (jO (10, 0, 0, 0)) (jU (jT 0) I))) (1, 0, 0, 0) := Or.inr hI_n4
  replace hq_n10 := ((hx15 _ (Or.inr hI_n10)).trans (hx13 _ hI_n10)).trans hq_n10
  replace hI_n10 : (jU (jK 11 7) (jU (jO (10, 0, 0, 0)) (jU (jT 0) I))) (10, 0, 0, 0) := Or.inr hI_n10
  replace hnw : ∀ j, (jU (jK 11 7) (jU (jO (10, 0, 0, 0)) (jU (jT 0) I))) j → ¬ I j → s.heap.size ≤ ad15 j := by
    intro j hj hn
    by_cases e9 : iI (jU (jO (10, 0, 0, 0)) (jU (jT 0) I)) (11, 0, 0, 0) j
    · rw [hx15 j e9]
      rcases e9 with e9 | e9
      · rw [e9, e13]; exact hz13
      · rw [hx13 j e9]; exact hnw j e9 hn
    · exact hnn j (hj.elim Or.inl (fun h => Or.inr (Or.inr h))) e9
  replace hxt : ∀ j, I j → ad15 j = ad j := fun j hj => ((hx15 j (Or.inr (hup j hj))).trans (hx13 j (hup j hj))).trans (hxt j hj)
  replace hup : ∀ j, I j → (jU (jK 11 7) (jU (jO (10, 0, 0, 0)) (jU (jT 0) I))) j := fun j hj => Or.inr (hup j hj)
  have hI_n13 : (jU (jK 11 7) (jU (jO (10, 0, 0, 0)) (jU (jT 0) I))) (11, 0, 0, 0) := Or.inl ⟨11, by decide, by decide, rfl⟩
  have hq_n13 := (hx15 _ (Or.inl rfl)).trans e13
  refine pF_296 (pc := 31) C hin hP hS hI_t hI_n13 (Or.inl rfl) hq_t hq_n13 dX8_init_31 (fun H locs hP hS => ?_)
  refine lv_aload_n (pc := 34) hx hb dX8_init_34 rfl (lv_at hl 0 rfl) ?_
  have hf18 : ∀ i, (jU (jK 11 7) (jU (jO (10, 0, 0, 0)) (jU (jT 0) I))) i → ¬ (jK 18 2) i := by
    intro i hi hJ
    have hJ2 : jX i := (Or.inr (Or.inr (Or.inr (Or.inr (Or.inl hJ)))))
    rcases hi with hi | hi | hi | hi
    · have h1 := jK_r hi; have h2 := jK_r hJ; (try dsimp only at h1); (try dsimp only at h2); omega
    · have h1 := jO_r hi; have h2 := jK_r hJ; (try dsimp only at h1); (try dsimp only at h2); omega
    · have h1 := jT_r hi; have h2 := jK_r hJ; (try dsimp only at h1); (try dsimp only at h2); omega
    · have he := hfr i hi hJ2
      subst he
      simp [jK] at hJ
  refine nw_X8_27 (pc := 35) (A := iA a s.heap.size) C hP hS (fun h => hf18 _ h ⟨18, by decide, by decide, rfl⟩) (Nat.le_of_ble_eq_true rfl) (Nat.le_of_ble_eq_true rfl) dX8_init_35 (fun q18 ad18 H e18 hx18 hz18 hP hS => ?_)
  refine lv_dup (pc := 38) hx hb dX8_init_38 rfl ?_
  refine lv_aload_n (pc := 39) hx hb dX8_init_39 rfl (lv_at hl 0 rfl) ?_
  refine gR_296 (pc := 40) C hP (Or.inr hI_t) ((hx18 _ hI_t).trans hq_t) (by simp [fu, nF, jF, jO, jS, jB, jC, jT, jK, cif_true, cif_false]) ((hx18 _ hI_n13).trans hq_n13) dX8_init_40 ?_
  refine r2_cI (pc := 43) (rest := [.ref q18, .ref a]) (As := [.ref q13]) C haK hl.1 hP hS hA (Or.inr hz18) (kI_X3 l G e18 (Or.inl rfl) (mr_at _ _ _) (if_pos rfl) (fun i hi hJ => hi.elim id (fun h => absurd hJ (hf18 i h))) (Or.inr hI_n13) ((hx18 _ hI_n13).trans hq_n13)) mw_218 mw_219 mw_61 mw_220 ⟨rfl, rfl⟩ rfl hd_X3_init rfl rfl ⟨Nat.le_of_ble_eq_true rfl, Nat.le_of_ble_eq_true rfl⟩ (Nat.le_of_ble_eq_true rfl) ⟨Nat.le_of_ble_eq_true rfl, Nat.le_of_ble_eq_true rfl⟩ dX8_init_43 (fun ad22 H locs hx22 hnn hP hS => ?_)
  replace hP := hP.root ⟨18, by decide, by decide, rfl⟩
  replace hq_t := ((hx22 _ (Or.inr hI_t)).trans (hx18 _ hI_t)).trans hq_t
  replace hI_t : (jU (jK 18 2) (jU (jK 11 7) (jU (jO (10, 0, 0, 0)) (jU (jT 0) I)))) (0, 0, 0, 0) := Or.inr hI_t
  replace hq_n4 := ((hx22 _ (Or.inr hI_n4)).trans (hx18 _ hI_n4)).trans hq_n4
  replace hI_n4 : (jU (jK 18 2) (jU (jK 11 7) (jU (jO (10, 0, 0, 0)) (jU (jT 0) I)))) (1, 0, 0, 0) := Or.inr hI_n4
  replace hq_n10 := ((hx22 _ (Or.inr hI_n10)).trans (hx18 _ hI_n10)).trans hq_n10
  replace hI_n10 : (jU (jK 18 2) (jU (jK 11 7) (jU (jO (10, 0, 0, 0)) (jU (jT 0) I)))) (10, 0, 0, 0) := Or.inr hI_n10
  replace hq_n13 := ((hx22 _ (Or.inr hI_n13)).trans (hx18 _ hI_n13)).trans hq_n13
  replace hI_n13 : (jU (jK 18 2) (jU (jK 11 7) (jU (jO (10, 0, 0, 0)) (jU (jT 0) I)))) (11, 0, 0, 0) := Or.inr hI_n13
  replace hnw : ∀ j, (jU (jK 18 2) (jU (jK 11 7) (jU (jO (10, 0, 0, 0)) (jU (jT 0) I)))) j → ¬ I j → s.heap.size ≤ ad22 j := by
    intro j hj hn
    by_cases e9 : iI (jU (jK 11 7) (jU (jO (10, 0, 0, 0)) (jU (jT 0) I))) (18, 0, 0, 0) j
    · rw [hx22 j e9]
      rcases e9 with e9 | e9
      · rw [e9, e18]; exact hz18
      · rw [hx18 j e9]; exact hnw j e9 hn
    · exact hnn j (hj.elim Or.inl (fun h => Or.inr (Or.inr h))) e9
  replace hxt : ∀ j, I j → ad22 j = ad j := fun j hj => ((hx22 j (Or.inr (hup j hj))).trans (hx18 j (hup j hj))).trans (hxt j hj)
  replace hup : ∀ j, I j → (jU (jK 18 2) (jU (jK 11 7) (jU (jO (10, 0, 0, 0)) (jU (jT 0) I)))) j := fun j hj => Or.inr (hup j hj)
  have hI_n18 : (jU (jK 18 2) (jU (jK 11 7) (jU (jO (10, 0, 0, 0)) (jU (jT 0) I)))) (18, 0, 0, 0) := Or.inl ⟨18, by decide, by decide, rfl⟩
  have hq_n18 := (hx22 _ (Or.inl rfl)).trans e18
  refine pF_297 (pc := 46) C hin hP hS hI_t hI_n18 (Or.inl rfl) hq_t hq_n18 dX8_init_46 (fun H locs hP hS => ?_)
  refine lv_aload_n (pc := 49) hx hb dX8_init_49 rfl (lv_at hl 0 rfl) ?_
  have hf25 : ∀ i, (jU (jK 18 2) (jU (jK 11 7) (jU (jO (10, 0, 0, 0)) (jU (jT 0) I)))) i → ¬ (jK 20 4) i := by
    intro i hi hJ
    have hJ2 : jX i := (Or.inr (Or.inr (Or.inr (Or.inr (Or.inr (Or.inl hJ))))))
    rcases hi with hi | hi | hi | hi | hi
    · have h1 := jK_r hi; have h2 := jK_r hJ; (try dsimp only at h1); (try dsimp only at h2); omega
    · have h1 := jK_r hi; have h2 := jK_r hJ; (try dsimp only at h1); (try dsimp only at h2); omega
    · have h1 := jO_r hi; have h2 := jK_r hJ; (try dsimp only at h1); (try dsimp only at h2); omega
    · have h1 := jT_r hi; have h2 := jK_r hJ; (try dsimp only at h1); (try dsimp only at h2); omega
    · have he := hfr i hi hJ2
      subst he
      simp [jK] at hJ
  refine nw_X8_36 (pc := 50) (A := iA a s.heap.size) C hP hS (fun h => hf25 _ h ⟨20, by decide, by decide, rfl⟩) (Nat.le_of_ble_eq_true rfl) (Nat.le_of_ble_eq_true rfl) dX8_init_50 (fun q25 ad25 H e25 hx25 hz25 hP hS => ?_)
  refine lv_dup (pc := 53) hx hb dX8_init_53 rfl ?_
  refine lv_aload_n (pc := 54) hx hb dX8_init_54 rfl (lv_at hl 0 rfl) ?_
  refine gR_296 (pc := 55) C hP (Or.inr hI_t) ((hx25 _ hI_t).trans hq_t) (by simp [fu, nF, jF, jO, jS, jB, jC, jT, jK, cif_true, cif_false]) ((hx25 _ hI_n13).trans hq_n13) dX8_init_55 ?_
  refine r2_cI (pc := 58) (rest := [.ref q25, .ref a]) (As := [.ref q13]) C haK hl.1 hP hS hA (Or.inr hz25) (kI_X2 l G e25 (Or.inl rfl) (mr_at _ _ _) (if_pos rfl) (fun i hi hJ => hi.elim id (fun h => absurd hJ (hf25 i h))) (Or.inr hI_n13) ((hx25 _ hI_n13).trans hq_n13)) mw_231 mw_232 mw_62 mw_233 ⟨rfl, rfl⟩ rfl hd_X2_init rfl rfl ⟨Nat.le_of_ble_eq_true rfl, Nat.le_of_ble_eq_true rfl⟩ (Nat.le_of_ble_eq_true rfl) ⟨Nat.le_of_ble_eq_true rfl, Nat.le_of_ble_eq_true rfl⟩ dX8_init_58 (fun ad29 H locs hx29 hnn hP hS => ?_)
  replace hP := hP.root ⟨20, by decide, by decide, rfl⟩
  replace hq_t := ((hx29 _ (Or.inr hI_t)).trans (hx25 _ hI_t)).trans hq_t
  replace hI_t : (jU (jK 20 4) (jU (jK 18 2) (jU (jK 11 7) (jU (jO (10, 0, 0, 0)) (jU (jT 0) I))))) (0, 0, 0, 0) := Or.inr hI_t
  replace hq_n4 := ((hx29 _ (Or.inr hI_n4)).trans (hx25 _ hI_n4)).trans hq_n4
  replace hI_n4 : (jU (jK 20 4) (jU (jK 18 2) (jU (jK 11 7) (jU (jO (10, 0, 0, 0)) (jU (jT 0) I))))) (1, 0, 0, 0) := Or.inr hI_n4
  replace hq_n10 := ((hx29 _ (Or.inr hI_n10)).trans (hx25 _ hI_n10)).trans hq_n10
  replace hI_n10 : (jU (jK 20 4) (jU (jK 18 2) (jU (jK 11 7) (jU (jO (10, 0, 0, 0)) (jU (jT 0) I))))) (10, 0, 0, 0) := Or.inr hI_n10
  replace hq_n13 := ((hx29 _ (Or.inr hI_n13)).trans (hx25 _ hI_n13)).trans hq_n13
  replace hI_n13 : (jU (jK 20 4) (jU (jK 18 2) (jU (jK 11 7) (jU (jO (10, 0, 0, 0)) (jU (jT 0) I))))) (11, 0, 0, 0) := Or.inr hI_n13
  replace hq_n18 := ((hx29 _ (Or.inr hI_n18)).trans (hx25 _ hI_n18)).trans hq_n18
  replace hI_n18 : (jU (jK 20 4) (jU (jK 18 2) (jU (jK 11 7) (jU (jO (10, 0, 0, 0)) (jU (jT 0) I))))) (18, 0, 0, 0) := Or.inr hI_n18
  replace hnw : ∀ j, (jU (jK 20 4) (jU (jK 18 2) (jU (jK 11 7) (jU (jO (10, 0, 0, 0)) (jU (jT 0) I))))) j → ¬ I j → s.heap.size ≤ ad29 j := by
    intro j hj hn
    by_cases e9 : iI (jU (jK 18 2) (jU (jK 11 7) (jU (jO (10, 0, 0, 0)) (jU (jT 0) I)))) (20, 0, 0, 0) j
    · rw [hx29 j e9]
      rcases e9 with e9 | e9
      · rw [e9, e25]; exact hz25
      · rw [hx25 j e9]; exact hnw j e9 hn
    · exact hnn j (hj.elim Or.inl (fun h => Or.inr (Or.inr h))) e9
  replace hxt : ∀ j, I j → ad29 j = ad j := fun j hj => ((hx29 j (Or.inr (hup j hj))).trans (hx25 j (hup j hj))).trans (hxt j hj)
  replace hup : ∀ j, I j → (jU (jK 20 4) (jU (jK 18 2) (jU (jK 11 7) (jU (jO (10, 0, 0, 0)) (jU (jT 0) I))))) j := fun j hj => Or.inr (hup j hj)
  have hI_n25 : (jU (jK 20 4) (jU (jK 18 2) (jU (jK 11 7) (jU (jO (10, 0, 0, 0)) (jU (jT 0) I))))) (20, 0, 0, 0) := Or.inl ⟨20, by decide, by decide, rfl⟩
  have hq_n25 := (hx29 _ (Or.inl rfl)).trans e25
  refine pF_298 (pc := 61) C hin hP hS hI_t hI_n25 (Or.inl rfl) hq_t hq_n25 dX8_init_61 (fun H locs hP hS => ?_)
  refine lv_aload_n (pc := 64) hx hb dX8_init_64 rfl (lv_at hl 0 rfl) ?_
  refine lv_iconst (pc := 65) (v := (4 : Int32)) hx hb dX8_init_65 (by decide) ?_
  have hf33 : ∀ i, (jU (jK 20 4) (jU (jK 18 2) (jU (jK 11 7) (jU (jO (10, 0, 0, 0)) (jU (jT 0) I))))) i → ¬ (jO (24, 0, 0, 0)) i := by
    intro i hi hJ
    have hJ2 : jX i := (Or.inr (Or.inr (Or.inr (Or.inr (Or.inr (Or.inr (Or.inl hJ)))))))
    rcases hi with hi | hi | hi | hi | hi | hi
    · have h1 := jK_r hi; have h2 := jO_r hJ; (try dsimp only at h1); (try dsimp only at h2); omega
    · have h1 := jK_r hi; have h2 := jO_r hJ; (try dsimp only at h1); (try dsimp only at h2); omega
    · have h1 := jK_r hi; have h2 := jO_r hJ; (try dsimp only at h1); (try dsimp only at h2); omega
    · have h1 := jO_r hi; have h2 := jO_r hJ; (try dsimp only at h1); (try dsimp only at h2); omega
    · have h1 := jT_r hi; have h2 := jO_r hJ; (try dsimp only at h1); (try dsimp only at h2); omega
    · have he := hfr i hi hJ2
      subst he
      simp [jO] at hJ
  refine r2_newI (pc := 66) (i := (24, 0, 0, 0)) (A := iA a s.heap.size) C hP hS (fun h => hf33 _ h rfl) (show (24 : Nat) ≠ 27 by decide) rfl mw_135 (by decide) (by decide) (Nat.le_of_ble_eq_true rfl) (Nat.le_of_ble_eq_true rfl) (Nat.le_of_ble_eq_true rfl) dX8_init_66 (fun q33 ad33 H e33 hx33 hz33 hP hS => ?_)
  replace hP := hP.toJ rfl rfl
  replace hq_t := (hx33 _ hI_t).trans hq_t
  replace hI_t : (jU (jO (24, 0, 0, 0)) (jU (jK 20 4) (jU (jK 18 2) (jU (jK 11 7) (jU (jO (10, 0, 0, 0)) (jU (jT 0) I)))))) (0, 0, 0, 0) := Or.inr hI_t
  replace hq_n4 := (hx33 _ hI_n4).trans hq_n4
  replace hI_n4 : (jU (jO (24, 0, 0, 0)) (jU (jK 20 4) (jU (jK 18 2) (jU (jK 11 7) (jU (jO (10, 0, 0, 0)) (jU (jT 0) I)))))) (1, 0, 0, 0) := Or.inr hI_n4
  replace hq_n10 := (hx33 _ hI_n10).trans hq_n10
  replace hI_n10 : (jU (jO (24, 0, 0, 0)) (jU (jK 20 4) (jU (jK 18 2) (jU (jK 11 7) (jU (jO (10, 0, 0, 0)) (jU (jT 0) I)))))) (10, 0, 0, 0) := Or.inr hI_n10
  replace hq_n13 := (hx33 _ hI_n13).trans hq_n13
  replace hI_n13 : (jU (jO (24, 0, 0, 0)) (jU (jK 20 4) (jU (jK 18 2) (jU (jK 11 7) (jU (jO (10, 0, 0, 0)) (jU (jT 0) I)))))) (11, 0, 0, 0) := Or.inr hI_n13
  replace hq_n18 := (hx33 _ hI_n18).trans hq_n18
  replace hI_n18 : (jU (jO (24, 0, 0, 0)) (jU (jK 20 4) (jU (jK 18 2) (jU (jK 11 7) (jU (jO (10, 0, 0, 0)) (jU (jT 0) I)))))) (18, 0, 0, 0) := Or.inr hI_n18
  replace hq_n25 := (hx33 _ hI_n25).trans hq_n25
  replace hI_n25 : (jU (jO (24, 0, 0, 0)) (jU (jK 20 4) (jU (jK 18 2) (jU (jK 11 7) (jU (jO (10, 0, 0, 0)) (jU (jT 0) I)))))) (20, 0, 0, 0) := Or.inr hI_n25
  replace hxt : ∀ j, I j → ad33 j = ad j := fun j hj => (hx33 j (hup j hj)).trans (hxt j hj)
  replace hup : ∀ j, I j → (jU (jO (24, 0, 0, 0)) (jU (jK 20 4) (jU (jK 18 2) (jU (jK 11 7) (jU (jO (10, 0, 0, 0)) (jU (jT 0) I)))))) j := fun j hj => Or.inr (hup j hj)
  replace hnw : ∀ j, (jU (jO (24, 0, 0, 0)) (jU (jK 20 4) (jU (jK 18 2) (jU (jK 11 7) (jU (jO (10, 0, 0, 0)) (jU (jT 0) I)))))) j → ¬ I j → s.heap.size ≤ ad33 j := fun j hj hn => hj.elim (fun h => by have h : j = (24, 0, 0, 0) := h; rw [h, e33]; exact hz33) (fun h => by rw [hx33 j h]; exact hnw j h hn)
  have hI_n33 : (jU (jO (24, 0, 0, 0)) (jU (jK 20 4) (jU (jK 18 2) (jU (jK 11 7) (jU (jO (10, 0, 0, 0)) (jU (jT 0) I)))))) (24, 0, 0, 0) := Or.inl rfl
  have hq_n33 := e33
  have hA_n33 : iA a s.heap.size q33 := Or.inr hz33
  refine pF_299 (pc := 68) C hin hP hS hI_t hI_n33 (Or.inl rfl) hq_t hq_n33 dX8_init_68 (fun H locs hP hS => ?_)
  refine lv_aload_n (pc := 71) hx hb dX8_init_71 rfl (lv_at hl 0 rfl) ?_
  refine lv_bipush (pc := 72) (v := (6 : Int32)) hx hb dX8_init_72 (by decide) ?_
  have hf37 : ∀ i, (jU (jO (24, 0, 0, 0)) (jU (jK 20 4) (jU (jK 18 2) (jU (jK 11 7) (jU (jO (10, 0, 0, 0)) (jU (jT 0) I)))))) i → ¬ (jO (25, 0, 0, 0)) i := by
    intro i hi hJ
    have hJ2 : jX i := (Or.inr (Or.inr (Or.inr (Or.inr (Or.inr (Or.inr (Or.inr (Or.inl hJ))))))))
    rcases hi with hi | hi | hi | hi | hi | hi | hi
    · have h1 := jO_r hi; have h2 := jO_r hJ; (try dsimp only at h1); (try dsimp only at h2); omega
    · have h1 := jK_r hi; have h2 := jO_r hJ; (try dsimp only at h1); (try dsimp only at h2); omega
    · have h1 := jK_r hi; have h2 := jO_r hJ; (try dsimp only at h1); (try dsimp only at h2); omega
    · have h1 := jK_r hi; have h2 := jO_r hJ; (try dsimp only at h1); (try dsimp only at h2); omega
    · have h1 := jO_r hi; have h2 := jO_r hJ; (try dsimp only at h1); (try dsimp only at h2); omega
    · have h1 := jT_r hi; have h2 := jO_r hJ; (try dsimp only at h1); (try dsimp only at h2); omega
    · have he := hfr i hi hJ2
      subst he
      simp [jO] at hJ
  refine r2_newI (pc := 74) (i := (25, 0, 0, 0)) (A := iA a s.heap.size) C hP hS (fun h => hf37 _ h rfl) (show (25 : Nat) ≠ 27 by decide) rfl mw_135 (by decide) (by decide) (Nat.le_of_ble_eq_true rfl) (Nat.le_of_ble_eq_true rfl) (Nat.le_of_ble_eq_true rfl) dX8_init_74 (fun q37 ad37 H e37 hx37 hz37 hP hS => ?_)
  replace hP := hP.toJ rfl rfl
  replace hq_t := (hx37 _ hI_t).trans hq_t
  replace hI_t : (jU (jO (25, 0, 0, 0)) (jU (jO (24, 0, 0, 0)) (jU (jK 20 4) (jU (jK 18 2) (jU (jK 11 7) (jU (jO (10, 0, 0, 0)) (jU (jT 0) I))))))) (0, 0, 0, 0) := Or.inr hI_t
  replace hq_n4 := (hx37 _ hI_n4).trans hq_n4
  replace hI_n4 : (jU (jO (25, 0, 0, 0)) (jU (jO (24, 0, 0, 0)) (jU (jK 20 4) (jU (jK 18 2) (jU (jK 11 7) (jU (jO (10, 0, 0, 0)) (jU (jT 0) I))))))) (1, 0, 0, 0) := Or.inr hI_n4
  replace hq_n10 := (hx37 _ hI_n10).trans hq_n10
  replace hI_n10 : (jU (jO (25, 0, 0, 0)) (jU (jO (24, 0, 0, 0)) (jU (jK 20 4) (jU (jK 18 2) (jU (jK 11 7) (jU (jO (10, 0, 0, 0)) (jU (jT 0) I))))))) (10, 0, 0, 0) := Or.inr hI_n10
  replace hq_n13 := (hx37 _ hI_n13).trans hq_n13
  replace hI_n13 : (jU (jO (25, 0, 0, 0)) (jU (jO (24, 0, 0, 0)) (jU (jK 20 4) (jU (jK 18 2) (jU (jK 11 7) (jU (jO (10, 0, 0, 0)) (jU (jT 0) I))))))) (11, 0, 0, 0) := Or.inr hI_n13
  replace hq_n18 := (hx37 _ hI_n18).trans hq_n18
  replace hI_n18 : (jU (jO (25, 0, 0, 0)) (jU (jO (24, 0, 0, 0)) (jU (jK 20 4) (jU (jK 18 2) (jU (jK 11 7) (jU (jO (10, 0, 0, 0)) (jU (jT 0) I))))))) (18, 0, 0, 0) := Or.inr hI_n18
  replace hq_n25 := (hx37 _ hI_n25).trans hq_n25
  replace hI_n25 : (jU (jO (25, 0, 0, 0)) (jU (jO (24, 0, 0, 0)) (jU (jK 20 4) (jU (jK 18 2) (jU (jK 11 7) (jU (jO (10, 0, 0, 0)) (jU (jT 0) I))))))) (20, 0, 0, 0) := Or.inr hI_n25
  replace hq_n33 := (hx37 _ hI_n33).trans hq_n33
  replace hI_n33 : (jU (jO (25, 0, 0, 0)) (jU (jO (24, 0, 0, 0)) (jU (jK 20 4) (jU (jK 18 2) (jU (jK 11 7) (jU (jO (10, 0, 0, 0)) (jU (jT 0) I))))))) (24, 0, 0, 0) := Or.inr hI_n33
  replace hxt : ∀ j, I j → ad37 j = ad j := fun j hj => (hx37 j (hup j hj)).trans (hxt j hj)
  replace hup : ∀ j, I j → (jU (jO (25, 0, 0, 0)) (jU (jO (24, 0, 0, 0)) (jU (jK 20 4) (jU (jK 18 2) (jU (jK 11 7) (jU (jO (10, 0, 0, 0)) (jU (jT 0) I))))))) j := fun j hj => Or.inr (hup j hj)
  replace hnw : ∀ j, (jU (jO (25, 0, 0, 0)) (jU (jO (24, 0, 0, 0)) (jU (jK 20 4) (jU (jK 18 2) (jU (jK 11 7) (jU (jO (10, 0, 0, 0)) (jU (jT 0) I))))))) j → ¬ I j → s.heap.size ≤ ad37 j := fun j hj hn => hj.elim (fun h => by have h : j = (25, 0, 0, 0) := h; rw [h, e37]; exact hz37) (fun h => by rw [hx37 j h]; exact hnw j h hn)
  have hI_n37 : (jU (jO (25, 0, 0, 0)) (jU (jO (24, 0, 0, 0)) (jU (jK 20 4) (jU (jK 18 2) (jU (jK 11 7) (jU (jO (10, 0, 0, 0)) (jU (jT 0) I))))))) (25, 0, 0, 0) := Or.inl rfl
  have hq_n37 := e37
  have hA_n37 : iA a s.heap.size q37 := Or.inr hz37
  refine pF_300 (pc := 76) C hin hP hS hI_t hI_n37 (Or.inl rfl) hq_t hq_n37 dX8_init_76 (fun H locs hP hS => ?_)
  refine lv_aload_n (pc := 79) hx hb dX8_init_79 rfl (lv_at hl 0 rfl) ?_
  have hf40 : ∀ i, (jU (jO (25, 0, 0, 0)) (jU (jO (24, 0, 0, 0)) (jU (jK 20 4) (jU (jK 18 2) (jU (jK 11 7) (jU (jO (10, 0, 0, 0)) (jU (jT 0) I))))))) i → ¬ (jK 26 2) i := by
    intro i hi hJ
    have hJ2 : jX i := (Or.inr (Or.inr (Or.inr (Or.inr (Or.inr (Or.inr (Or.inr (Or.inr (Or.inl hJ)))))))))
    rcases hi with hi | hi | hi | hi | hi | hi | hi | hi
    · have h1 := jO_r hi; have h2 := jK_r hJ; (try dsimp only at h1); (try dsimp only at h2); omega
    · have h1 := jO_r hi; have h2 := jK_r hJ; (try dsimp only at h1); (try dsimp only at h2); omega
    · have h1 := jK_r hi; have h2 := jK_r hJ; (try dsimp only at h1); (try dsimp only at h2); omega
    · have h1 := jK_r hi; have h2 := jK_r hJ; (try dsimp only at h1); (try dsimp only at h2); omega
    · have h1 := jK_r hi; have h2 := jK_r hJ; (try dsimp only at h1); (try dsimp only at h2); omega
    · have h1 := jO_r hi; have h2 := jK_r hJ; (try dsimp only at h1); (try dsimp only at h2); omega
    · have h1 := jT_r hi; have h2 := jK_r hJ; (try dsimp only at h1); (try dsimp only at h2); omega
    · have he := hfr i hi hJ2
      subst he
      simp [jK] at hJ
  refine nw_X8_50 (pc := 80) (A := iA a s.heap.size) C hP hS (fun h => hf40 _ h ⟨26, by decide, by decide, rfl⟩) (Nat.le_of_ble_eq_true rfl) (Nat.le_of_ble_eq_true rfl) dX8_init_80 (fun q40 ad40 H e40 hx40 hz40 hP hS => ?_)
  refine lv_dup (pc := 83) hx hb dX8_init_83 rfl ?_
  have hn27 : ∀ j, (jU (jO (25, 0, 0, 0)) (jU (jO (24, 0, 0, 0)) (jU (jK 20 4) (jU (jK 18 2) (jU (jK 11 7) (jU (jO (10, 0, 0, 0)) (jU (jT 0) I))))))) j → j.1 ≠ 27 := by
    intro j hj
    rcases hj with hj | hj | hj | hj | hj | hj | hj | hj
    · have h1 := jO_r hj; (try dsimp only at h1); omega
    · have h1 := jO_r hj; (try dsimp only at h1); omega
    · have h1 := jK_r hj; (try dsimp only at h1); omega
    · have h1 := jK_r hj; (try dsimp only at h1); omega
    · have h1 := jK_r hj; (try dsimp only at h1); omega
    · have h1 := jO_r hj; (try dsimp only at h1); omega
    · have h1 := jT_r hj; (try dsimp only at h1); omega
    · exact h27 j hj
  refine r2_cI (pc := 84) (rest := [.ref q40, .ref a]) (As := []) C haK hl.1 hP hS hA (Or.inr hz40) (kI_X4 l G e40 (Or.inl rfl) (mr_at _ _ _) (if_pos rfl) (fun i hi hJ => hi.elim id (fun h => absurd hJ (hf40 i h))) (fun j hj => hj.elim (fun e => by rw [e]; decide) (fun hj => hn27 j hj))) mw_253 mw_254 mw_63 mw_255 ⟨rfl, rfl⟩ rfl hd_X4_init rfl rfl ⟨Nat.le_of_ble_eq_true rfl, Nat.le_of_ble_eq_true rfl⟩ (Nat.le_of_ble_eq_true rfl) ⟨Nat.le_of_ble_eq_true rfl, Nat.le_of_ble_eq_true rfl⟩ dX8_init_84 (fun ad42 H locs hx42 hnn hP hS => ?_)
  replace hP : w2 G (jU (jK 26 2) (jU (jO (25, 0, 0, 0)) (jU (jO (24, 0, 0, 0)) (jU (jK 20 4) (jU (jK 18 2) (jU (jK 11 7) (jU (jO (10, 0, 0, 0)) (jU (jT 0) I)))))))) ad42 (jM (jK 26 2) ((jM (jO (25, 0, 0, 0)) (jM (jO (24, 0, 0, 0)) (jM (jK 20 4) (jM (jK 18 2) (jM (jK 11 7) (jM (jO (10, 0, 0, 0)) (jM (jT 0) M))))))).1, fun _ => 0)) (jF (jK 26 2) (fu (jF (jO (25, 0, 0, 0)) (fu (jF (jO (24, 0, 0, 0)) (fu (jF (jK 20 4) (fu (jF (jK 18 2) (fu (jF (jK 11 7) (fu (jF (jO (10, 0, 0, 0)) (fu (jF (jT 0) F) (0, 0, 0, 0) 0 (1, 0, 0, 0))) (0, 0, 0, 0) 1 (10, 0, 0, 0))) (0, 0, 0, 0) 2 (11, 0, 0, 0))) (0, 0, 0, 0) 3 (18, 0, 0, 0))) (0, 0, 0, 0) 4 (20, 0, 0, 0))) (0, 0, 0, 0) 5 (24, 0, 0, 0))) (0, 0, 0, 0) 6 (25, 0, 0, 0))) H := w2.root (M := ((jM (jO (25, 0, 0, 0)) (jM (jO (24, 0, 0, 0)) (jM (jK 20 4) (jM (jK 18 2) (jM (jK 11 7) (jM (jO (10, 0, 0, 0)) (jM (jT 0) M))))))).1, fun _ => 0)) hP ⟨26, by decide, by decide, rfl⟩
  replace hq_t := ((hx42 _ (Or.inr hI_t)).trans (hx40 _ hI_t)).trans hq_t
  replace hI_t : (jU (jK 26 2) (jU (jO (25, 0, 0, 0)) (jU (jO (24, 0, 0, 0)) (jU (jK 20 4) (jU (jK 18 2) (jU (jK 11 7) (jU (jO (10, 0, 0, 0)) (jU (jT 0) I)))))))) (0, 0, 0, 0) := Or.inr hI_t
  replace hq_n4 := ((hx42 _ (Or.inr hI_n4)).trans (hx40 _ hI_n4)).trans hq_n4
  replace hI_n4 : (jU (jK 26 2) (jU (jO (25, 0, 0, 0)) (jU (jO (24, 0, 0, 0)) (jU (jK 20 4) (jU (jK 18 2) (jU (jK 11 7) (jU (jO (10, 0, 0, 0)) (jU (jT 0) I)))))))) (1, 0, 0, 0) := Or.inr hI_n4
  replace hq_n10 := ((hx42 _ (Or.inr hI_n10)).trans (hx40 _ hI_n10)).trans hq_n10
  replace hI_n10 : (jU (jK 26 2) (jU (jO (25, 0, 0, 0)) (jU (jO (24, 0, 0, 0)) (jU (jK 20 4) (jU (jK 18 2) (jU (jK 11 7) (jU (jO (10, 0, 0, 0)) (jU (jT 0) I)))))))) (10, 0, 0, 0) := Or.inr hI_n10
  replace hq_n13 := ((hx42 _ (Or.inr hI_n13)).trans (hx40 _ hI_n13)).trans hq_n13
  replace hI_n13 : (jU (jK 26 2) (jU (jO (25, 0, 0, 0)) (jU (jO (24, 0, 0, 0)) (jU (jK 20 4) (jU (jK 18 2) (jU (jK 11 7) (jU (jO (10, 0, 0, 0)) (jU (jT 0) I)))))))) (11, 0, 0, 0) := Or.inr hI_n13
  replace hq_n18 := ((hx42 _ (Or.inr hI_n18)).trans (hx40 _ hI_n18)).trans hq_n18
  replace hI_n18 : (jU (jK 26 2) (jU (jO (25, 0, 0, 0)) (jU (jO (24, 0, 0, 0)) (jU (jK 20 4) (jU (jK 18 2) (jU (jK 11 7) (jU (jO (10, 0, 0, 0)) (jU (jT 0) I)))))))) (18, 0, 0, 0) := Or.inr hI_n18
  replace hq_n25 := ((hx42 _ (Or.inr hI_n25)).trans (hx40 _ hI_n25)).trans hq_n25
  replace hI_n25 : (jU (jK 26 2) (jU (jO (25, 0, 0, 0)) (jU (jO (24, 0, 0, 0)) (jU (jK 20 4) (jU (jK 18 2) (jU (jK 11 7) (jU (jO (10, 0, 0, 0)) (jU (jT 0) I)))))))) (20, 0, 0, 0) := Or.inr hI_n25
  replace hq_n33 := ((hx42 _ (Or.inr hI_n33)).trans (hx40 _ hI_n33)).trans hq_n33
  replace hI_n33 : (jU (jK 26 2) (jU (jO (25, 0, 0, 0)) (jU (jO (24, 0, 0, 0)) (jU (jK 20 4) (jU (jK 18 2) (jU (jK 11 7) (jU (jO (10, 0, 0, 0)) (jU (jT 0) I)))))))) (24, 0, 0, 0) := Or.inr hI_n33
  replace hq_n37 := ((hx42 _ (Or.inr hI_n37)).trans (hx40 _ hI_n37)).trans hq_n37
  replace hI_n37 : (jU (jK 26 2) (jU (jO (25, 0, 0, 0)) (jU (jO (24, 0, 0, 0)) (jU (jK 20 4) (jU (jK 18 2) (jU (jK 11 7) (jU (jO (10, 0, 0, 0)) (jU (jT 0) I)))))))) (25, 0, 0, 0) := Or.inr hI_n37
  replace hnw : ∀ j, (jU (jK 26 2) (jU (jO (25, 0, 0, 0)) (jU (jO (24, 0, 0, 0)) (jU (jK 20 4) (jU (jK 18 2) (jU (jK 11 7) (jU (jO (10, 0, 0, 0)) (jU (jT 0) I)))))))) j → ¬ I j → s.heap.size ≤ ad42 j := by
    intro j hj hn
    by_cases e9 : iI (jU (jO (25, 0, 0, 0)) (jU (jO (24, 0, 0, 0)) (jU (jK 20 4) (jU (jK 18 2) (jU (jK 11 7) (jU (jO (10, 0, 0, 0)) (jU (jT 0) I))))))) (26, 0, 0, 0) j
    · rw [hx42 j e9]
      rcases e9 with e9 | e9
      · rw [e9, e40]; exact hz40
      · rw [hx40 j e9]; exact hnw j e9 hn
    · exact hnn j (hj.elim Or.inl (fun h => Or.inr (Or.inr h))) e9
  replace hxt : ∀ j, I j → ad42 j = ad j := fun j hj => ((hx42 j (Or.inr (hup j hj))).trans (hx40 j (hup j hj))).trans (hxt j hj)
  replace hup : ∀ j, I j → (jU (jK 26 2) (jU (jO (25, 0, 0, 0)) (jU (jO (24, 0, 0, 0)) (jU (jK 20 4) (jU (jK 18 2) (jU (jK 11 7) (jU (jO (10, 0, 0, 0)) (jU (jT 0) I)))))))) j := fun j hj => Or.inr (hup j hj)
  have hI_n40 : (jU (jK 26 2) (jU (jO (25, 0, 0, 0)) (jU (jO (24, 0, 0, 0)) (jU (jK 20 4) (jU (jK 18 2) (jU (jK 11 7) (jU (jO (10, 0, 0, 0)) (jU (jT 0) I)))))))) (26, 0, 0, 0) := Or.inl ⟨26, by decide, by decide, rfl⟩
  have hq_n40 := (hx42 _ (Or.inl rfl)).trans e40
  refine pF_301 (pc := 87) C hin hP hS hI_t hI_n40 (Or.inl rfl) hq_t hq_n40 dX8_init_87 (fun H locs hP hS => ?_)
  refine lv_aload_n (pc := 90) hx hb dX8_init_90 rfl (lv_at hl 0 rfl) ?_
  have hf45 : ∀ i, (jU (jK 26 2) (jU (jO (25, 0, 0, 0)) (jU (jO (24, 0, 0, 0)) (jU (jK 20 4) (jU (jK 18 2) (jU (jK 11 7) (jU (jO (10, 0, 0, 0)) (jU (jT 0) I)))))))) i → ¬ (jK 28 1) i := by
    intro i hi hJ
    have hJ2 : jX i := (Or.inr (Or.inr (Or.inr (Or.inr (Or.inr (Or.inr (Or.inr (Or.inr (Or.inr hJ)))))))))
    rcases hi with hi | hi | hi | hi | hi | hi | hi | hi | hi
    · have h1 := jK_r hi; have h2 := jK_r hJ; (try dsimp only at h1); (try dsimp only at h2); omega
    · have h1 := jO_r hi; have h2 := jK_r hJ; (try dsimp only at h1); (try dsimp only at h2); omega
    · have h1 := jO_r hi; have h2 := jK_r hJ; (try dsimp only at h1); (try dsimp only at h2); omega
    · have h1 := jK_r hi; have h2 := jK_r hJ; (try dsimp only at h1); (try dsimp only at h2); omega
    · have h1 := jK_r hi; have h2 := jK_r hJ; (try dsimp only at h1); (try dsimp only at h2); omega
    · have h1 := jK_r hi; have h2 := jK_r hJ; (try dsimp only at h1); (try dsimp only at h2); omega
    · have h1 := jO_r hi; have h2 := jK_r hJ; (try dsimp only at h1); (try dsimp only at h2); omega
    · have h1 := jT_r hi; have h2 := jK_r hJ; (try dsimp only at h1); (try dsimp only at h2); omega
    · have he := hfr i hi hJ2
      subst he
      simp [jK] at hJ
  refine nw_X8_57 (pc := 91) (A := iA a s.heap.size) C hP hS (fun h => hf45 _ h ⟨28, by decide, by decide, rfl⟩) (Nat.le_of_ble_eq_true rfl) (Nat.le_of_ble_eq_true rfl) dX8_init_91 (fun q45 ad45 H e45 hx45 hz45 hP hS => ?_)
  refine lv_dup (pc := 94) hx hb dX8_init_94 rfl ?_
  refine r2_cI (pc := 95) (rest := [.ref q45, .ref a]) (As := []) C haK hl.1 hP hS hA (Or.inr hz45) (kI_X7 l G e45 (Or.inl rfl) (mr_at _ _ _) (if_pos rfl) (fun i hi hJ => hi.elim id (fun h => absurd hJ (hf45 i h)))) mw_268 mw_269 mw_64 mw_270 ⟨rfl, rfl⟩ rfl hd_X7_init rfl rfl ⟨Nat.le_of_ble_eq_true rfl, Nat.le_of_ble_eq_true rfl⟩ (Nat.le_of_ble_eq_true rfl) ⟨Nat.le_of_ble_eq_true rfl, Nat.le_of_ble_eq_true rfl⟩ dX8_init_95 (fun ad47 H locs hx47 hnn hP hS => ?_)
  replace hP := hP.root ⟨28, by decide, by decide, rfl⟩
  replace hq_t := ((hx47 _ (Or.inr hI_t)).trans (hx45 _ hI_t)).trans hq_t
  replace hI_t : (jU (jK 28 1) (jU (jK 26 2) (jU (jO (25, 0, 0, 0)) (jU (jO (24, 0, 0, 0)) (jU (jK 20 4) (jU (jK 18 2) (jU (jK 11 7) (jU (jO (10, 0, 0, 0)) (jU (jT 0) I))))))))) (0, 0, 0, 0) := Or.inr hI_t
  replace hq_n4 := ((hx47 _ (Or.inr hI_n4)).trans (hx45 _ hI_n4)).trans hq_n4
  replace hI_n4 : (jU (jK 28 1) (jU (jK 26 2) (jU (jO (25, 0, 0, 0)) (jU (jO (24, 0, 0, 0)) (jU (jK 20 4) (jU (jK 18 2) (jU (jK 11 7) (jU (jO (10, 0, 0, 0)) (jU (jT 0) I))))))))) (1, 0, 0, 0) := Or.inr hI_n4
  replace hq_n10 := ((hx47 _ (Or.inr hI_n10)).trans (hx45 _ hI_n10)).trans hq_n10
  replace hI_n10 : (jU (jK 28 1) (jU (jK 26 2) (jU (jO (25, 0, 0, 0)) (jU (jO (24, 0, 0, 0)) (jU (jK 20 4) (jU (jK 18 2) (jU (jK 11 7) (jU (jO (10, 0, 0, 0)) (jU (jT 0) I))))))))) (10, 0, 0, 0) := Or.inr hI_n10
  replace hq_n13 := ((hx47 _ (Or.inr hI_n13)).trans (hx45 _ hI_n13)).trans hq_n13
  replace hI_n13 : (jU (jK 28 1) (jU (jK 26 2) (jU (jO (25, 0, 0, 0)) (jU (jO (24, 0, 0, 0)) (jU (jK 20 4) (jU (jK 18 2) (jU (jK 11 7) (jU (jO (10, 0, 0, 0)) (jU (jT 0) I))))))))) (11, 0, 0, 0) := Or.inr hI_n13
  replace hq_n18 := ((hx47 _ (Or.inr hI_n18)).trans (hx45 _ hI_n18)).trans hq_n18
  replace hI_n18 : (jU (jK 28 1) (jU (jK 26 2) (jU (jO (25, 0, 0, 0)) (jU (jO (24, 0, 0, 0)) (jU (jK 20 4) (jU (jK 18 2) (jU (jK 11 7) (jU (jO (10, 0, 0, 0)) (jU (jT 0) I))))))))) (18, 0, 0, 0) := Or.inr hI_n18
  replace hq_n25 := ((hx47 _ (Or.inr hI_n25)).trans (hx45 _ hI_n25)).trans hq_n25
  replace hI_n25 : (jU (jK 28 1) (jU (jK 26 2) (jU (jO (25, 0, 0, 0)) (jU (jO (24, 0, 0, 0)) (jU (jK 20 4) (jU (jK 18 2) (jU (jK 11 7) (jU (jO (10, 0, 0, 0)) (jU (jT 0) I))))))))) (20, 0, 0, 0) := Or.inr hI_n25
  replace hq_n33 := ((hx47 _ (Or.inr hI_n33)).trans (hx45 _ hI_n33)).trans hq_n33
  replace hI_n33 : (jU (jK 28 1) (jU (jK 26 2) (jU (jO (25, 0, 0, 0)) (jU (jO (24, 0, 0, 0)) (jU (jK 20 4) (jU (jK 18 2) (jU (jK 11 7) (jU (jO (10, 0, 0, 0)) (jU (jT 0) I))))))))) (24, 0, 0, 0) := Or.inr hI_n33
  replace hq_n37 := ((hx47 _ (Or.inr hI_n37)).trans (hx45 _ hI_n37)).trans hq_n37
  replace hI_n37 : (jU (jK 28 1) (jU (jK 26 2) (jU (jO (25, 0, 0, 0)) (jU (jO (24, 0, 0, 0)) (jU (jK 20 4) (jU (jK 18 2) (jU (jK 11 7) (jU (jO (10, 0, 0, 0)) (jU (jT 0) I))))))))) (25, 0, 0, 0) := Or.inr hI_n37
  replace hq_n40 := ((hx47 _ (Or.inr hI_n40)).trans (hx45 _ hI_n40)).trans hq_n40
  replace hI_n40 : (jU (jK 28 1) (jU (jK 26 2) (jU (jO (25, 0, 0, 0)) (jU (jO (24, 0, 0, 0)) (jU (jK 20 4) (jU (jK 18 2) (jU (jK 11 7) (jU (jO (10, 0, 0, 0)) (jU (jT 0) I))))))))) (26, 0, 0, 0) := Or.inr hI_n40
  replace hnw : ∀ j, (jU (jK 28 1) (jU (jK 26 2) (jU (jO (25, 0, 0, 0)) (jU (jO (24, 0, 0, 0)) (jU (jK 20 4) (jU (jK 18 2) (jU (jK 11 7) (jU (jO (10, 0, 0, 0)) (jU (jT 0) I))))))))) j → ¬ I j → s.heap.size ≤ ad47 j := by
    intro j hj hn
    by_cases e9 : iI (jU (jK 26 2) (jU (jO (25, 0, 0, 0)) (jU (jO (24, 0, 0, 0)) (jU (jK 20 4) (jU (jK 18 2) (jU (jK 11 7) (jU (jO (10, 0, 0, 0)) (jU (jT 0) I)))))))) (28, 0, 0, 0) j
    · rw [hx47 j e9]
      rcases e9 with e9 | e9
      · rw [e9, e45]; exact hz45
      · rw [hx45 j e9]; exact hnw j e9 hn
    · exact hnn j (hj.elim Or.inl (fun h => Or.inr (Or.inr h))) e9
  replace hxt : ∀ j, I j → ad47 j = ad j := fun j hj => ((hx47 j (Or.inr (hup j hj))).trans (hx45 j (hup j hj))).trans (hxt j hj)
  replace hup : ∀ j, I j → (jU (jK 28 1) (jU (jK 26 2) (jU (jO (25, 0, 0, 0)) (jU (jO (24, 0, 0, 0)) (jU (jK 20 4) (jU (jK 18 2) (jU (jK 11 7) (jU (jO (10, 0, 0, 0)) (jU (jT 0) I))))))))) j := fun j hj => Or.inr (hup j hj)
  have hI_n45 : (jU (jK 28 1) (jU (jK 26 2) (jU (jO (25, 0, 0, 0)) (jU (jO (24, 0, 0, 0)) (jU (jK 20 4) (jU (jK 18 2) (jU (jK 11 7) (jU (jO (10, 0, 0, 0)) (jU (jT 0) I))))))))) (28, 0, 0, 0) := Or.inl ⟨28, by decide, by decide, rfl⟩
  have hq_n45 := (hx47 _ (Or.inl rfl)).trans e45
  refine pF_302 (pc := 98) C hin hP hS hI_t hI_n45 (Or.inl rfl) hq_t hq_n45 dX8_init_98 (fun H locs hP hS => ?_)
  have hIf : ∀ j, jU jX I j ↔ (jU (jK 28 1) (jU (jK 26 2) (jU (jO (25, 0, 0, 0)) (jU (jO (24, 0, 0, 0)) (jU (jK 20 4) (jU (jK 18 2) (jU (jK 11 7) (jU (jO (10, 0, 0, 0)) (jU (jT 0) I))))))))) j := by
    intro j
    constructor
    · rintro (hj | hj)
      · skip
        rcases hj with rfl | hj | rfl | hj | hj | hj | rfl | rfl | hj | hj
        · exact hup _ hroot
        · exact (Or.inr (Or.inr (Or.inr (Or.inr (Or.inr (Or.inr (Or.inr (Or.inr (Or.inl hj)))))))))
        · exact (Or.inr (Or.inr (Or.inr (Or.inr (Or.inr (Or.inr (Or.inr (Or.inl rfl))))))))
        · exact (Or.inr (Or.inr (Or.inr (Or.inr (Or.inr (Or.inr (Or.inl hj)))))))
        · exact (Or.inr (Or.inr (Or.inr (Or.inr (Or.inr (Or.inl hj))))))
        · exact (Or.inr (Or.inr (Or.inr (Or.inr (Or.inl hj)))))
        · exact (Or.inr (Or.inr (Or.inr (Or.inl rfl))))
        · exact (Or.inr (Or.inr (Or.inl rfl)))
        · exact (Or.inr (Or.inl hj))
        · exact (Or.inl hj)
      · exact hup j hj
    · rintro (hj | hj | hj | hj | hj | hj | hj | hj | hj | hj)
      · exact Or.inl (Or.inr (Or.inr (Or.inr (Or.inr (Or.inr (Or.inr (Or.inr (Or.inr (Or.inr hj)))))))))
      · exact Or.inl (Or.inr (Or.inr (Or.inr (Or.inr (Or.inr (Or.inr (Or.inr (Or.inr (Or.inl hj)))))))))
      · exact Or.inl (Or.inr (Or.inr (Or.inr (Or.inr (Or.inr (Or.inr (Or.inr (Or.inl hj))))))))
      · exact Or.inl (Or.inr (Or.inr (Or.inr (Or.inr (Or.inr (Or.inr (Or.inl hj)))))))
      · exact Or.inl (Or.inr (Or.inr (Or.inr (Or.inr (Or.inr (Or.inl hj))))))
      · exact Or.inl (Or.inr (Or.inr (Or.inr (Or.inr (Or.inl hj)))))
      · exact Or.inl (Or.inr (Or.inr (Or.inr (Or.inl hj))))
      · exact Or.inl (Or.inr (Or.inr (Or.inl hj)))
      · exact Or.inl (Or.inr (Or.inl hj))
      · exact Or.inr hj
  have hMf : ∀ j, jX j → (jM (jK 28 1) (jM (jK 26 2) ((jM (jO (25, 0, 0, 0)) (jM (jO (24, 0, 0, 0)) (jM (jK 20 4) (jM (jK 18 2) (jM (jK 11 7) (jM (jO (10, 0, 0, 0)) (jM (jT 0) M))))))).1, fun _ => 0))).1 j = m0 j := by
    intro j hj
    rcases hj with rfl | hj | rfl | hj | hj | hj | rfl | rfl | hj | hj
    · exact (jM_in (Or.inr (jM_in (Or.inr (jM_in (Or.inr (jM_in (Or.inr (jM_in (Or.inr (jM_in (Or.inr (jM_in (Or.inr (jM_in (Or.inr (jM_in (Or.inr (hM0.trans rfl)))))))))))))))))))
    · exact (jM_in (Or.inr (jM_in (Or.inr (jM_in (Or.inr (jM_in (Or.inr (jM_in (Or.inr (jM_in (Or.inr (jM_in (Or.inr (jM_in (Or.inr (jM_in (Or.inl hj))))))))))))))))))
    · exact (jM_in (Or.inr (jM_in (Or.inr (jM_in (Or.inr (jM_in (Or.inr (jM_in (Or.inr (jM_in (Or.inr (jM_in (Or.inr (jM_in (Or.inl rfl))))))))))))))))
    · exact (jM_in (Or.inr (jM_in (Or.inr (jM_in (Or.inr (jM_in (Or.inr (jM_in (Or.inr (jM_in (Or.inr (jM_in (Or.inl hj))))))))))))))
    · exact (jM_in (Or.inr (jM_in (Or.inr (jM_in (Or.inr (jM_in (Or.inr (jM_in (Or.inr (jM_in (Or.inl hj))))))))))))
    · exact (jM_in (Or.inr (jM_in (Or.inr (jM_in (Or.inr (jM_in (Or.inr (jM_in (Or.inl hj))))))))))
    · exact (jM_in (Or.inr (jM_in (Or.inr (jM_in (Or.inr (jM_in (Or.inl rfl))))))))
    · exact (jM_in (Or.inr (jM_in (Or.inr (jM_in (Or.inl rfl))))))
    · exact (jM_in (Or.inr (jM_in (Or.inl hj))))
    · exact (jM_in (Or.inl hj))
  have hMo : ∀ j, I j → ¬ jX j → (jM (jK 28 1) (jM (jK 26 2) ((jM (jO (25, 0, 0, 0)) (jM (jO (24, 0, 0, 0)) (jM (jK 20 4) (jM (jK 18 2) (jM (jK 11 7) (jM (jO (10, 0, 0, 0)) (jM (jT 0) M))))))).1, fun _ => 0))).1 j = M.1 j := by
    intro j hj hn
    rw [jM_ne (J := (jK 28 1)) (fun h => hn (Or.inr (Or.inr (Or.inr (Or.inr (Or.inr (Or.inr (Or.inr (Or.inr (Or.inr h))))))))))]
    rw [jM_ne (J := (jK 26 2)) (fun h => hn (Or.inr (Or.inr (Or.inr (Or.inr (Or.inr (Or.inr (Or.inr (Or.inr (Or.inl h))))))))))]
    rw [jM_ne (J := (jO (25, 0, 0, 0))) (fun h => hn (Or.inr (Or.inr (Or.inr (Or.inr (Or.inr (Or.inr (Or.inr (Or.inl h)))))))))]
    rw [jM_ne (J := (jO (24, 0, 0, 0))) (fun h => hn (Or.inr (Or.inr (Or.inr (Or.inr (Or.inr (Or.inr (Or.inl h))))))))]
    rw [jM_ne (J := (jK 20 4)) (fun h => hn (Or.inr (Or.inr (Or.inr (Or.inr (Or.inr (Or.inl h)))))))]
    rw [jM_ne (J := (jK 18 2)) (fun h => hn (Or.inr (Or.inr (Or.inr (Or.inr (Or.inl h))))))]
    rw [jM_ne (J := (jK 11 7)) (fun h => hn (Or.inr (Or.inr (Or.inr (Or.inl h)))))]
    rw [jM_ne (J := (jO (10, 0, 0, 0))) (fun h => hn (Or.inr (Or.inr (Or.inl h))))]
    rw [jM_ne (J := (jT 0)) (fun h => hn (Or.inr (Or.inl h)))]
  have hWf : (jM (jK 28 1) (jM (jK 26 2) ((jM (jO (25, 0, 0, 0)) (jM (jO (24, 0, 0, 0)) (jM (jK 20 4) (jM (jK 18 2) (jM (jK 11 7) (jM (jO (10, 0, 0, 0)) (jM (jT 0) M))))))).1, fun _ => 0))).2 = (fun _ => 0) := by rfl
  have hFf : ∀ j, jX j → (fu (jF (jK 28 1) (fu (jF (jK 26 2) (fu (jF (jO (25, 0, 0, 0)) (fu (jF (jO (24, 0, 0, 0)) (fu (jF (jK 20 4) (fu (jF (jK 18 2) (fu (jF (jK 11 7) (fu (jF (jO (10, 0, 0, 0)) (fu (jF (jT 0) F) (0, 0, 0, 0) 0 (1, 0, 0, 0))) (0, 0, 0, 0) 1 (10, 0, 0, 0))) (0, 0, 0, 0) 2 (11, 0, 0, 0))) (0, 0, 0, 0) 3 (18, 0, 0, 0))) (0, 0, 0, 0) 4 (20, 0, 0, 0))) (0, 0, 0, 0) 5 (24, 0, 0, 0))) (0, 0, 0, 0) 6 (25, 0, 0, 0))) (0, 0, 0, 0) 7 (26, 0, 0, 0))) (0, 0, 0, 0) 8 (28, 0, 0, 0)) j = f0 j := by
    intro j hj
    rcases hj with rfl | hj | rfl | hj | hj | hj | rfl | rfl | hj | hj
    · funext q; simp [fu, nF, jF, jO, jS, jB, jC, jT, jK, cif_true, cif_false, f0, hF0] <;> grind
    · exact (fu_in (by intro h9; rw [h9] at hj; simp [jT, jB, jS, jK] at hj) (jF_in (Or.inr (fu_in (by intro h9; rw [h9] at hj; simp [jT, jB, jS, jK] at hj) (jF_in (Or.inr (fu_in (by intro h9; rw [h9] at hj; simp [jT, jB, jS, jK] at hj) (jF_in (Or.inr (fu_in (by intro h9; rw [h9] at hj; simp [jT, jB, jS, jK] at hj) (jF_in (Or.inr (fu_in (by intro h9; rw [h9] at hj; simp [jT, jB, jS, jK] at hj) (jF_in (Or.inr (fu_in (by intro h9; rw [h9] at hj; simp [jT, jB, jS, jK] at hj) (jF_in (Or.inr (fu_in (by intro h9; rw [h9] at hj; simp [jT, jB, jS, jK] at hj) (jF_in (Or.inr (fu_in (by intro h9; rw [h9] at hj; simp [jT, jB, jS, jK] at hj) (jF_in (Or.inr (fu_in (by intro h9; rw [h9] at hj; simp [jT, jB, jS, jK] at hj) (jF_in (Or.inl hj)))))))))))))))))))))))))))
    · exact (fu_in (by simp) (jF_in (Or.inr (fu_in (by simp) (jF_in (Or.inr (fu_in (by simp) (jF_in (Or.inr (fu_in (by simp) (jF_in (Or.inr (fu_in (by simp) (jF_in (Or.inr (fu_in (by simp) (jF_in (Or.inr (fu_in (by simp) (jF_in (Or.inr (fu_in (by simp) (jF_in (Or.inl rfl))))))))))))))))))))))))
    · exact (fu_in (by intro h9; rw [h9] at hj; simp [jT, jB, jS, jK] at hj) (jF_in (Or.inr (fu_in (by intro h9; rw [h9] at hj; simp [jT, jB, jS, jK] at hj) (jF_in (Or.inr (fu_in (by intro h9; rw [h9] at hj; simp [jT, jB, jS, jK] at hj) (jF_in (Or.inr (fu_in (by intro h9; rw [h9] at hj; simp [jT, jB, jS, jK] at hj) (jF_in (Or.inr (fu_in (by intro h9; rw [h9] at hj; simp [jT, jB, jS, jK] at hj) (jF_in (Or.inr (fu_in (by intro h9; rw [h9] at hj; simp [jT, jB, jS, jK] at hj) (jF_in (Or.inr (fu_in (by intro h9; rw [h9] at hj; simp [jT, jB, jS, jK] at hj) (jF_in (Or.inl hj)))))))))))))))))))))
    · exact (fu_in (by intro h9; rw [h9] at hj; simp [jT, jB, jS, jK] at hj) (jF_in (Or.inr (fu_in (by intro h9; rw [h9] at hj; simp [jT, jB, jS, jK] at hj) (jF_in (Or.inr (fu_in (by intro h9; rw [h9] at hj; simp [jT, jB, jS, jK] at hj) (jF_in (Or.inr (fu_in (by intro h9; rw [h9] at hj; simp [jT, jB, jS, jK] at hj) (jF_in (Or.inr (fu_in (by intro h9; rw [h9] at hj; simp [jT, jB, jS, jK] at hj) (jF_in (Or.inr (fu_in (by intro h9; rw [h9] at hj; simp [jT, jB, jS, jK] at hj) (jF_in (Or.inl hj))))))))))))))))))
    · exact (fu_in (by intro h9; rw [h9] at hj; simp [jT, jB, jS, jK] at hj) (jF_in (Or.inr (fu_in (by intro h9; rw [h9] at hj; simp [jT, jB, jS, jK] at hj) (jF_in (Or.inr (fu_in (by intro h9; rw [h9] at hj; simp [jT, jB, jS, jK] at hj) (jF_in (Or.inr (fu_in (by intro h9; rw [h9] at hj; simp [jT, jB, jS, jK] at hj) (jF_in (Or.inr (fu_in (by intro h9; rw [h9] at hj; simp [jT, jB, jS, jK] at hj) (jF_in (Or.inl hj)))))))))))))))
    · exact (fu_in (by simp) (jF_in (Or.inr (fu_in (by simp) (jF_in (Or.inr (fu_in (by simp) (jF_in (Or.inr (fu_in (by simp) (jF_in (Or.inl rfl))))))))))))
    · exact (fu_in (by simp) (jF_in (Or.inr (fu_in (by simp) (jF_in (Or.inr (fu_in (by simp) (jF_in (Or.inl rfl)))))))))
    · exact (fu_in (by intro h9; rw [h9] at hj; simp [jT, jB, jS, jK] at hj) (jF_in (Or.inr (fu_in (by intro h9; rw [h9] at hj; simp [jT, jB, jS, jK] at hj) (jF_in (Or.inl hj))))))
    · exact (fu_in (by intro h9; rw [h9] at hj; simp [jT, jB, jS, jK] at hj) (jF_in (Or.inl hj)))
  have hFo : ∀ j, I j → ¬ jX j → (fu (jF (jK 28 1) (fu (jF (jK 26 2) (fu (jF (jO (25, 0, 0, 0)) (fu (jF (jO (24, 0, 0, 0)) (fu (jF (jK 20 4) (fu (jF (jK 18 2) (fu (jF (jK 11 7) (fu (jF (jO (10, 0, 0, 0)) (fu (jF (jT 0) F) (0, 0, 0, 0) 0 (1, 0, 0, 0))) (0, 0, 0, 0) 1 (10, 0, 0, 0))) (0, 0, 0, 0) 2 (11, 0, 0, 0))) (0, 0, 0, 0) 3 (18, 0, 0, 0))) (0, 0, 0, 0) 4 (20, 0, 0, 0))) (0, 0, 0, 0) 5 (24, 0, 0, 0))) (0, 0, 0, 0) 6 (25, 0, 0, 0))) (0, 0, 0, 0) 7 (26, 0, 0, 0))) (0, 0, 0, 0) 8 (28, 0, 0, 0)) j = F j := by
    intro j hj hn
    rw [fu_ne (fun e => hn (by rw [e]; simp [jX, jT, jB, jS, jC, jK]))]
    rw [jF_ne (J := (jK 28 1)) (fun h => hn (Or.inr (Or.inr (Or.inr (Or.inr (Or.inr (Or.inr (Or.inr (Or.inr (Or.inr h))))))))))]
    rw [fu_ne (fun e => hn (by rw [e]; simp [jX, jT, jB, jS, jC, jK]))]
    rw [jF_ne (J := (jK 26 2)) (fun h => hn (Or.inr (Or.inr (Or.inr (Or.inr (Or.inr (Or.inr (Or.inr (Or.inr (Or.inl h))))))))))]
    rw [fu_ne (fun e => hn (by rw [e]; simp [jX, jT, jB, jS, jC, jK]))]
    rw [jF_ne (J := (jO (25, 0, 0, 0))) (fun h => hn (Or.inr (Or.inr (Or.inr (Or.inr (Or.inr (Or.inr (Or.inr (Or.inl h)))))))))]
    rw [fu_ne (fun e => hn (by rw [e]; simp [jX, jT, jB, jS, jC, jK]))]
    rw [jF_ne (J := (jO (24, 0, 0, 0))) (fun h => hn (Or.inr (Or.inr (Or.inr (Or.inr (Or.inr (Or.inr (Or.inl h))))))))]
    rw [fu_ne (fun e => hn (by rw [e]; simp [jX, jT, jB, jS, jC, jK]))]
    rw [jF_ne (J := (jK 20 4)) (fun h => hn (Or.inr (Or.inr (Or.inr (Or.inr (Or.inr (Or.inl h)))))))]
    rw [fu_ne (fun e => hn (by rw [e]; simp [jX, jT, jB, jS, jC, jK]))]
    rw [jF_ne (J := (jK 18 2)) (fun h => hn (Or.inr (Or.inr (Or.inr (Or.inr (Or.inl h))))))]
    rw [fu_ne (fun e => hn (by rw [e]; simp [jX, jT, jB, jS, jC, jK]))]
    rw [jF_ne (J := (jK 11 7)) (fun h => hn (Or.inr (Or.inr (Or.inr (Or.inl h)))))]
    rw [fu_ne (fun e => hn (by rw [e]; simp [jX, jT, jB, jS, jC, jK]))]
    rw [jF_ne (J := (jO (10, 0, 0, 0))) (fun h => hn (Or.inr (Or.inr (Or.inl h))))]
    rw [fu_ne (fun e => hn (by rw [e]; simp [jX, jT, jB, jS, jC, jK]))]
    rw [jF_ne (J := (jT 0)) (fun h => hn (Or.inr (Or.inl h)))]
  exact r2_ret (pc := 101) C (w2.fin (i := (0, 0, 0, 0)) (M := (M.1, fun _ => 0)) hP hIf hfr hMf hMo hWf hFf hFo) hxt (fun j hj hn => hnw j ((hIf j).mp hj) hn) hS (Nat.le_of_ble_eq_true rfl) (Nat.le_of_ble_eq_true rfl) dX8_init_101
