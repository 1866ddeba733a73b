theorem jO_r {x i : ix} (h : jO x i) : i.1 = x.1 ∧ i.2.1 = x.2.1 ∧ i.2.2.1 = x.2.2.1 ∧ i.2.2.2 = x.2.2.2 := by
  have h : i = x := h
  subst h
  exact ⟨rfl, rfl, rfl, rfl⟩
theorem jS_r {s b c : Nat} {i : ix} (h : jS s b c i) : 7 ≤ i.1 ∧ i.1 ≤ 9 ∧ i.2.1 = s ∧ i.2.2.1 = b ∧ i.2.2.2 = c := by
  rcases h with rfl | rfl | rfl <;> exact ⟨Nat.le_of_ble_eq_true rfl, Nat.le_of_ble_eq_true rfl, rfl, rfl, rfl⟩
theorem jB_r {s b : Nat} {i : ix} (h : jB s b i) : 3 ≤ i.1 ∧ i.1 ≤ 9 ∧ i.2.1 = s ∧ i.2.2.1 = b := by
  rcases h with rfl | rfl | ⟨r, hr, rfl⟩ | rfl | ⟨c, hc, h⟩
  · exact ⟨Nat.le_of_ble_eq_true rfl, Nat.le_of_ble_eq_true rfl, rfl, rfl⟩
  · exact ⟨Nat.le_of_ble_eq_true rfl, Nat.le_of_ble_eq_true rfl, rfl, rfl⟩
  · exact ⟨Nat.le_of_ble_eq_true rfl, Nat.le_of_ble_eq_true rfl, rfl, rfl⟩
  · exact ⟨Nat.le_of_ble_eq_true rfl, Nat.le_of_ble_eq_true rfl, rfl, rfl⟩
  · have := jS_r h
    omega
theorem jT_r {s : Nat} {i : ix} (h : jT s i) : 1 ≤ i.1 ∧ i.1 ≤ 9 ∧ i.2.1 = s := by
  rcases h with rfl | rfl | ⟨b, hb, h⟩
  · exact ⟨Nat.le_of_ble_eq_true rfl, Nat.le_of_ble_eq_true rfl, rfl⟩
  · exact ⟨Nat.le_of_ble_eq_true rfl, Nat.le_of_ble_eq_true rfl, rfl⟩
  · have := jB_r h
    omega
theorem jK_r {a n : Nat} {i : ix} (h : jK a n i) : a ≤ i.1 ∧ i.1 < a + n := by
  obtain ⟨k, h1, h2, rfl⟩ := h
  exact ⟨h1, h2⟩
theorem cif_true {α : Type} {a b : α} : cif True a b = a := cif_pos trivial
theorem cif_false {α : Type} {a b : α} : cif False a b = b := cif_neg id
theorem jM_in {J : ix → Prop} {M : Mem} {j : ix} (h : J j ∨ M.1 j = m0 j) : (jM J M).1 j = m0 j := by
  by_cases e : J j
  · exact jM_at e
  · rw [jM_ne e]; exact h.resolve_left e
theorem jF_in {J : ix → Prop} {F : Fm} {j : ix} (h : J j ∨ F j = f0 j) : jF J F j = f0 j := by
  by_cases e : J j
  · exact jF_at e
  · rw [jF_ne e]; exact h.resolve_left e
theorem fu_ne {F : Fm} {i j r : ix} {k : Nat} (h : j ≠ i) : fu F i k r j = F j := if_neg h
theorem nF_ne {F : Fm} {i j : ix} (h : j ≠ i) : nF F i j = F j := if_neg h
theorem fu_in {F : Fm} {i j r : ix} {k : Nat} (h : j ≠ i) (hF : F j = f0 j) : fu F i k r j = f0 j := (fu_ne h).trans hF
theorem nF_in {F : Fm} {i j : ix} (h : j ≠ i) (hF : F j = f0 j) : nF F i j = f0 j := (nF_ne h).trans hF
def jX : ix → Prop := fun i => i = (0, 0, 0, 0) ∨ jT 0 i ∨ i = (10, 0, 0, 0) ∨ jK 11 7 i ∨ jK 18 2 i ∨ jK 20 4 i ∨ i = (24, 0, 0, 0) ∨ i = (25, 0, 0, 0) ∨ jK 26 2 i ∨ jK 28 1 i
theorem w6_clear0 {s0 b0 c0 : Nat} {M : Mem} (h : M.1 (7, s0, b0, c0) = fun _ => 0) : w_X6_clear s0 b0 c0 (fun M1 => M1 = mr M (7, s0, b0, c0) (m0 (7, s0, b0, c0))) M := by
  refine w6_clear (fun r h0 h1 h2 h3 h4 h5 => ?_)
  congr 1
  funext k
  show r k = if k = 0 ∨ k = 1 then -2000000 else 0
  rcases (show k = 0 ∨ k = 1 ∨ k = 2 ∨ k = 3 ∨ k = 4 ∨ 5 ≤ k by omega) with rfl | rfl | rfl | rfl | rfl | hk
  · exact h0
  · exact h1
  · exact h2
  · exact h3
  · exact h4
  · rw [h5 k hk, h, if_neg (by omega)]
theorem w7_clear0 {M : Mem} (h : M.1 (28, 0, 0, 0) = fun _ => 0) : w_X7_clear (fun M1 => M1 = mr M (28, 0, 0, 0) (m0 (28, 0, 0, 0))) M := by
  intro M19 e
  subst e
  have e0 : (mu M (28, 0, 0, 0) 0 (-2000000 : Int32)) = mr M (28, 0, 0, 0) (upd (M.1 (28, 0, 0, 0)) 0 (-2000000)) := rfl
  rw [e0, mu_mr, mu_mr, mu_mr, h]
  congr 1
  funext k
  simp only [upd, m0]
  grind
theorem w1_clear0 {M : Mem} (h : M.1 (11, 0, 0, 0) = fun _ => 0) (h17 : M.1 (17, 0, 0, 0) = fun _ => 0) : w_X1_clear (fun M1 => M1 = mr (mr M (11, 0, 0, 0) (m0 (11, 0, 0, 0))) (17, 0, 0, 0) (m0 (17, 0, 0, 0))) M := by
  unfold w_X1_clear w_X1_await
  have e0 : (mu M (11, 0, 0, 0) 0 (0 : Int32)) = mr M (11, 0, 0, 0) (upd (M.1 (11, 0, 0, 0)) 0 0) := rfl
  rw [e0, mu_mr, mu_mr, h]
  have e7 : (mr M (11, 0, 0, 0) (upd (upd (upd (fun _ => 0) 0 0) 7 0) 8 (-2000000))).1 (11, 0, 0, 0) 7 = 0 := by rw [mr_at]; simp [upd]
  rw [e7, if_neg (by decide)]
  refine ⟨vpc (by decide), fun M29 e => ?_⟩
  rw [e]
  have e8 : (mu (mr M (11, 0, 0, 0) (upd (upd (upd (fun _ => 0) 0 0) 7 0) 8 (-2000000))) (17, 0, 0, 0) (Int32.toNatClampNeg 0) 1).1 (11, 0, 0, 0) 7 = 0 := by rw [mu_ne _ _ _ (by simp), e7]
  rw [e8]
  clear e e7 e8 e0
  refine mem_ext (fun i k => ?_) (fun k => rfl)
  simp only [mu, mr, upd, m0]
  by_cases hi : i = (11, 0, 0, 0)
  · subst hi; simp [upd] <;> grind
  · by_cases hi2 : i = (17, 0, 0, 0)
    · subst hi2; simp [h17, upd]
    · simp [hi, hi2]
abbrev rmI_X6 : Room := { frames := 1, cells := 2, slots := 8, locals := 20 }
theorem hd_X6_init : yX6_init.cls ≠ "java/lang/invoke/MethodHandle" ∧ yX6_init.cls ≠ "java/lang/invoke/VarHandle" ∧ (parseMethodDescriptor yX6_init.desc).map (fun d => d.parameters.length) = some 0 := ⟨by decide +kernel, by decide +kernel, by decide +kernel⟩
set_option maxHeartbeats 4000000 in
set_option maxRecDepth 100000 in
theorem kI_X6 (l : Launch) (G : GG) {I : ix → Prop} {ad : ix → Nat} {M : Mem} {F : Fm} {sz a : Nat} {s0 b0 c0 : Nat} (ha : ad (7, s0, b0, c0) = a) (hroot : I (7, s0, b0, c0)) (hM0 : M.1 (7, s0, b0, c0) = fun _ => 0) (hF0 : F (7, s0, b0, c0) = fun _ => none) (hfr : ∀ i, I i → (jS s0 b0 c0) i → i = (7, s0, b0, c0)) : Met l yX6_init (wW yX6_init cX6_init 1 none) rmI_X6 (iPc G I ad M F sz [.ref a]) (iQ G I ad (jU (jS s0 b0 c0) I) (jM (jS s0 b0 c0) M) (jF (jS s0 b0 c0) F) a sz) 2 8 (iA a sz) := by
  refine met_ofI (by decide +kernel) (Nat.le_of_ble_eq_true rfl) rfl (fun p e s m below meth c hsz C haK hin hP hS ls hl => ?_)
  have hx := C.1
  have hb := C.2.1
  have hown := C.2.2.2.1
  have hts := C.2.2.2.2.1
  have hA : ∀ q, s.heap.size ≤ q → iA a s.heap.size q := fun q h => Or.inr h
  have hI_t := hroot
  have hq_t := ha
  have hxt : ∀ j, I j → ad j = ad j := fun _ _ => rfl
  have hup : ∀ j, I j → I j := fun _ h => h
  have hnw : ∀ j, I j → ¬ I j → s.heap.size ≤ ad j := fun j h1 h2 => absurd h1 h2
  have hl : lv_has ls 1 [(0, .ref a)] := hl
  refine lv_aload_n (pc := 0) hx hb dX6_init_0 rfl (lv_at hl 0 rfl) ?_
  refine r2_obj (pc := 1) C hl.1 mw_97 mw_74 mw_75 dX6_init_1 (Nat.le_of_ble_eq_true rfl) (Nat.le_of_ble_eq_true rfl) ?_
  refine lv_aload_n (pc := 4) hx hb dX6_init_4 rfl (lv_at hl 0 rfl) ?_
  refine lv_iconst (pc := 5) (v := (4 : Int32)) hx hb dX6_init_5 (by decide) ?_
  have hf5 : ∀ i, I i → ¬ (jO (8, s0, b0, c0)) i := by
    intro i hi hJ
    have hJ2 : (jS s0 b0 c0) i := (by simp only [jS, jO] at hJ ⊢; grind)
    have he := hfr i hi hJ2
    subst he
    simp [jO] at hJ
  refine r2_newI (pc := 6) (i := (8, s0, b0, c0)) (A := iA a s.heap.size) C hP hS (fun h => hf5 _ h rfl) (show (8 : Nat) ≠ 27 by decide) rfl mw_135 (by decide) (by decide) (Nat.le_of_ble_eq_true rfl) (Nat.le_of_ble_eq_true rfl) (Nat.le_of_ble_eq_true rfl) dX6_init_6 (fun q5 ad5 H e5 hx5 hz5 hP hS => ?_)
  replace hP := hP.toJ rfl rfl
  replace hq_t := (hx5 _ hI_t).trans hq_t
  replace hI_t : (jU (jO (8, s0, b0, c0)) I) (7, s0, b0, c0) := Or.inr hI_t
  replace hxt : ∀ j, I j → ad5 j = ad j := fun j hj => (hx5 j (hup j hj)).trans (hxt j hj)
  replace hup : ∀ j, I j → (jU (jO (8, s0, b0, c0)) I) j := fun j hj => Or.inr (hup j hj)
  replace hnw : ∀ j, (jU (jO (8, s0, b0, c0)) I) j → ¬ I j → s.heap.size ≤ ad5 j := fun j hj hn => hj.elim (fun h => by have h : j = (8, s0, b0, c0) := h; rw [h, e5]; exact hz5) (fun h => by rw [hx5 j h]; exact hnw j h hn)
  have hI_n5 : (jU (jO (8, s0, b0, c0)) I) (8, s0, b0, c0) := Or.inl rfl
  have hq_n5 := e5
  have hA_n5 : iA a s.heap.size q5 := Or.inr hz5
  refine pF_116 (pc := 8) C hin hP hS hI_t hI_n5 (Or.inl rfl) hq_t hq_n5 dX6_init_8 (fun H locs hP hS => ?_)
  refine lv_aload_n (pc := 11) hx hb dX6_init_11 rfl (lv_at hl 0 rfl) ?_
  refine lv_iconst (pc := 12) (v := (4 : Int32)) hx hb dX6_init_12 (by decide) ?_
  have hf9 : ∀ i, (jU (jO (8, s0, b0, c0)) I) i → ¬ (jO (9, s0, b0, c0)) i := by
    intro i hi hJ
    have hJ2 : (jS s0 b0 c0) i := (by simp only [jS, jO] at hJ ⊢; grind)
    rcases hi with hi | hi
    · simp only [jO] at hi hJ
      grind
    · have he := hfr i hi hJ2
      subst he
      simp [jO] at hJ
  refine r2_newI (pc := 13) (i := (9, s0, b0, c0)) (A := iA a s.heap.size) C hP hS (fun h => hf9 _ h rfl) (show (9 : Nat) ≠ 27 by decide) rfl mw_135 (by decide) (by decide) (Nat.le_of_ble_eq_true rfl) (Nat.le_of_ble_eq_true rfl) (Nat.le_of_ble_eq_true rfl) dX6_init_13 (fun q9 ad9 H e9 hx9 hz9 hP hS => ?_)
  replace hP := hP.toJ rfl rfl
  replace hq_t := (hx9 _ hI_t).trans hq_t
  replace hI_t : (jU (jO (9, s0, b0, c0)) (jU (jO (8, s0, b0, c0)) I)) (7, s0, b0, c0) := Or.inr hI_t
  replace hq_n5 := (hx9 _ hI_n5).trans hq_n5
  replace hI_n5 : (jU (jO (9, s0, b0, c0)) (jU (jO (8, s0, b0, c0)) I)) (8, s0, b0, c0) := Or.inr hI_n5
  replace hxt : ∀ j, I j → ad9 j = ad j := fun j hj => (hx9 j (hup j hj)).trans (hxt j hj)
  replace hup : ∀ j, I j → (jU (jO (9, s0, b0, c0)) (jU (jO (8, s0, b0, c0)) I)) j := fun j hj => Or.inr (hup j hj)
  replace hnw : ∀ j, (jU (jO (9, s0, b0, c0)) (jU (jO (8, s0, b0, c0)) I)) j → ¬ I j → s.heap.size ≤ ad9 j := fun j hj hn => hj.elim (fun h => by have h : j = (9, s0, b0, c0) := h; rw [h, e9]; exact hz9) (fun h => by rw [hx9 j h]; exact hnw j h hn)
  have hI_n9 : (jU (jO (9, s0, b0, c0)) (jU (jO (8, s0, b0, c0)) I)) (9, s0, b0, c0) := Or.inl rfl
  have hq_n9 := e9
  have hA_n9 : iA a s.heap.size q9 := Or.inr hz9
  refine pF_118 (pc := 15) C hin hP hS hI_t hI_n9 (Or.inl rfl) hq_t hq_n9 dX6_init_15 (fun H locs hP hS => ?_)
  refine lv_aload_n (pc := 18) hx hb dX6_init_18 rfl (lv_at hl 0 rfl) ?_
  have hMr : (jM (jO (9, s0, b0, c0)) (jM (jO (8, s0, b0, c0)) M)).1 (7, s0, b0, c0) = fun _ => 0 := by
    simp [jM, jO, mr, cif_false, hM0]
  have hFr : (fu (jF (jO (9, s0, b0, c0)) (fu (jF (jO (8, s0, b0, c0)) F) (7, s0, b0, c0) 5 (8, s0, b0, c0))) (7, s0, b0, c0) 6 (9, s0, b0, c0)) (7, s0, b0, c0) = f0 (7, s0, b0, c0) := by
    funext q
    simp [fu, jF, jO, cif_false, hF0, f0] <;> grind
  have hS0 : ∀ j, (jS s0 b0 c0) j → (jU (jO (9, s0, b0, c0)) (jU (jO (8, s0, b0, c0)) I)) j ∧ iA a s.heap.size (ad9 j) := by
    intro j hj
    rcases hj with rfl | rfl | rfl
    · exact ⟨hI_t, by rw [hq_t]; exact (Or.inl rfl)⟩
    · exact ⟨hI_n5, by rw [hq_n5]; exact hA_n5⟩
    · exact ⟨hI_n9, by rw [hq_n9]; exact hA_n9⟩
  have hst0 : ∀ (M1 : Mem) j, (jS s0 b0 c0) j → p2 G j (M1.1 j) M1.2 (adr ad9 ((fu (jF (jO (9, s0, b0, c0)) (fu (jF (jO (8, s0, b0, c0)) F) (7, s0, b0, c0) 5 (8, s0, b0, c0))) (7, s0, b0, c0) 6 (9, s0, b0, c0)) j)) = pic G ad9 M1 j := by
    intro M1 j hj
    rcases hj with rfl | rfl | rfl
    · rw [hFr]; exact p2_f0 G _ _ _ _ (show (7 : Nat) ≠ 10 by decide)
    · rfl
    · rfl
  refine r2_cV (pc := 19) (i := (7, s0, b0, c0)) (I0 := (jS s0 b0 c0)) (Qp := fun M1 => M1 = mr (jM (jO (9, s0, b0, c0)) (jM (jO (8, s0, b0, c0)) M)) (7, s0, b0, c0) (m0 (7, s0, b0, c0))) C hl.1 hP hS (k_X6_clear l G (clo_jS s0 b0 c0) (Or.inl rfl) (w6_clear0 hMr)) hS0 hst0 (fun M1 e => by subst e; exact ⟨fun j hj h => mr_ne _ _ (fun q => h (by rw [q]; exact Or.inl rfl)), rfl⟩) hq_t (Or.inl rfl) rfl rfl mw_98 mw_99 mw_100 mw_59 mw_101 ⟨rfl, rfl⟩ hd_X6_clear rfl rfl ⟨Nat.le_of_ble_eq_true rfl, Nat.le_of_ble_eq_true rfl⟩ (Nat.le_of_ble_eq_true rfl) ⟨Nat.le_of_ble_eq_true rfl, Nat.le_of_ble_eq_true rfl⟩ dX6_init_19 (fun M9 H locs hw9 hP hS => ?_)
  have hIf : ∀ j, jU (jS s0 b0 c0) I j ↔ (jU (jO (9, s0, b0, c0)) (jU (jO (8, s0, b0, c0)) I)) j := by
    intro j
    constructor
    · rintro (hj | hj)
      · skip
        rcases hj with rfl | rfl | rfl
        · exact hup _ hroot
        · exact (Or.inr (Or.inl rfl))
        · exact (Or.inl rfl)
      · exact hup j hj
    · rintro (hj | hj | hj)
      · exact Or.inl (by simp only [jS, jO] at hj ⊢; grind)
      · exact Or.inl (by simp only [jS, jO] at hj ⊢; grind)
      · exact Or.inr hj
  have hMf : ∀ j, (jS s0 b0 c0) j → M9.1 j = m0 j := by
    intro j hj
    subst hw9
    rcases hj with rfl | rfl | rfl
    · first | rw [mr_at] | (rw [mr_ne _ _ (by simp)]; simp [jM, jO, cif_true, cif_false, m0])
    · first | rw [mr_at] | (rw [mr_ne _ _ (by simp)]; simp [jM, jO, cif_true, cif_false, m0])
    · first | rw [mr_at] | (rw [mr_ne _ _ (by simp)]; simp [jM, jO, cif_true, cif_false, m0])
  have hMo : ∀ j, I j → ¬ (jS s0 b0 c0) j → M9.1 j = M.1 j := by
    intro j hj hn
    subst hw9
    rw [mr_ne _ _ (fun e => hn (by rw [e]; simp [jS]))]
    rw [jM_ne (fun h => hn (by simp only [jS, jO] at h ⊢; grind))]
    rw [jM_ne (fun h => hn (by simp only [jS, jO] at h ⊢; grind))]
  have hWf : M9.2 = M.2 := by subst hw9; rfl
  have hFf : ∀ j, (jS s0 b0 c0) j → (fu (jF (jO (9, s0, b0, c0)) (fu (jF (jO (8, s0, b0, c0)) F) (7, s0, b0, c0) 5 (8, s0, b0, c0))) (7, s0, b0, c0) 6 (9, s0, b0, c0)) j = f0 j := by
    intro j hj
    rcases hj with rfl | rfl | rfl
    · funext q; simp [fu, nF, jF, jO, jS, jB, jC, jT, jK, cif_true, cif_false, f0, hF0] <;> grind
    · exact (fu_in (by simp) (jF_in (Or.inr (fu_in (by simp) (jF_in (Or.inl rfl))))))
    · exact (fu_in (by simp) (jF_in (Or.inl rfl)))
  have hFo : ∀ j, I j → ¬ (jS s0 b0 c0) j → (fu (jF (jO (9, s0, b0, c0)) (fu (jF (jO (8, s0, b0, c0)) F) (7, s0, b0, c0) 5 (8, s0, b0, c0))) (7, s0, b0, c0) 6 (9, s0, b0, c0)) j = F j := by
    intro j hj hn
    rw [fu_ne (fun e => hn (by rw [e]; simp [jS]))]
    rw [jF_ne (fun h => hn (by simp only [jS, jO] at h ⊢; grind))]
    rw [fu_ne (fun e => hn (by rw [e]; simp [jS]))]
    rw [jF_ne (fun h => hn (by simp only [jS, jO] at h ⊢; grind))]
  exact r2_ret (pc := 22) C (w2.fin (i := (7, s0, b0, c0)) (M := M) hP hIf hfr hMf hMo hWf hFf hFo) hxt (fun j hj hn => hnw j ((hIf j).mp hj) hn) hS (Nat.le_of_ble_eq_true rfl) (Nat.le_of_ble_eq_true rfl) dX6_init_22
abbrev rmI_X7 : Room := { frames := 1, cells := 0, slots := 0, locals := 20 }
theorem hd_X7_init : yX7_init.cls ≠ "java/lang/invoke/MethodHandle" ∧ yX7_init.cls ≠ "java/lang/invoke/VarHandle" ∧ (parseMethodDescriptor yX7_init.desc).map (fun d => d.parameters.length) = some 0 := ⟨by decide +kernel, by decide +kernel, by decide +kernel⟩
set_option maxHeartbeats 4000000 in
set_option maxRecDepth 100000 in
theorem kI_X7 (l : Launch) (G : GG) {I : ix → Prop} {ad : ix → Nat} {M : Mem} {F : Fm} {sz a : Nat} (ha : ad (28, 0, 0, 0) = a) (hroot : I (28, 0, 0, 0)) (hM0 : M.1 (28, 0, 0, 0) = fun _ => 0) (hF0 : F (28, 0, 0, 0) = fun _ => none) (hfr : ∀ i, I i → (jK 28 1) i → i = (28, 0, 0, 0)) : Met l yX7_init (wW yX7_init cX7_init 1 none) rmI_X7 (iPc G I ad M F sz [.ref a]) (iQ G I ad (jU (jK 28 1) I) (jM (jK 28 1) M) (jF (jK 28 1) F) a sz) 0 0 (iA a sz) := by
  refine met_ofI (by decide +kernel) (Nat.le_of_ble_eq_true rfl) rfl (fun p e s m below meth c hsz C haK hin hP hS ls hl => ?_)
  have hx := C.1
  have hb := C.2.1
  have hown := C.2.2.2.1
  have hts := C.2.2.2.2.1
  have hA : ∀ q, s.heap.size ≤ q → iA a s.heap.size q := fun q h => Or.inr h
  have hI_t := hroot
  have hq_t := ha
  have hxt : ∀ j, I j → ad j = ad j := fun _ _ => rfl
  have hup : ∀ j, I j → I j := fun _ h => h
  have hnw : ∀ j, I j → ¬ I j → s.heap.size ≤ ad j := fun j h1 h2 => absurd h1 h2
  have hl : lv_has ls 1 [(0, .ref a)] := hl
  refine lv_aload_n (pc := 0) hx hb dX7_init_0 rfl (lv_at hl 0 rfl) ?_
  refine r2_obj (pc := 1) C hl.1 mw_271 mw_74 mw_75 dX7_init_1 (Nat.le_of_ble_eq_true rfl) (Nat.le_of_ble_eq_true rfl) ?_
  refine lv_aload_n (pc := 4) hx hb dX7_init_4 rfl (lv_at hl 0 rfl) ?_
  have hMr : M.1 (28, 0, 0, 0) = fun _ => 0 := by
    simp [jM, jO, mr, cif_false, hM0]
  have hFr : F (28, 0, 0, 0) = f0 (28, 0, 0, 0) := by
    funext q
    simp [fu, jF, jO, cif_false, hF0, f0] <;> grind
  have hS0 : ∀ j, (jK 28 1) j → I j ∧ iA a s.heap.size (ad j) := by
    intro j hj
    obtain ⟨k, h1, h2, rfl⟩ := hj
    rcases (show k = 28 by omega) with rfl
    exact ⟨hI_t, by rw [hq_t]; exact (Or.inl rfl)⟩
  have hst0 : ∀ (M1 : Mem) j, (jK 28 1) j → p2 G j (M1.1 j) M1.2 (adr ad (F j)) = pic G ad M1 j := by
    intro M1 j hj
    obtain ⟨k, h1, h2, rfl⟩ := hj
    rcases (show k = 28 by omega) with rfl
    rw [hFr]; exact p2_f0 G _ _ _ _ (by decide)
  refine r2_cV (pc := 5) (i := (28, 0, 0, 0)) (I0 := (jK 28 1)) (Qp := fun M1 => M1 = mr M (28, 0, 0, 0) (m0 (28, 0, 0, 0))) C hl.1 hP hS (k_X7_clear l G clo_28 ⟨28, by decide, by decide, rfl⟩ (w7_clear0 hMr)) hS0 hst0 (fun M1 e => by subst e; exact ⟨fun j hj h => mr_ne _ _ (fun q => h (by rw [q]; exact ⟨28, by decide, by decide, rfl⟩)), rfl⟩) hq_t ⟨28, by decide, by decide, rfl⟩ rfl rfl mw_272 mw_273 mw_274 mw_64 mw_275 ⟨rfl, rfl⟩ hd_X7_clear rfl rfl ⟨Nat.le_of_ble_eq_true rfl, Nat.le_of_ble_eq_true rfl⟩ (Nat.le_of_ble_eq_true rfl) ⟨Nat.le_of_ble_eq_true rfl, Nat.le_of_ble_eq_true rfl⟩ dX7_init_5 (fun M9 H locs hw9 hP hS => ?_)
  have hIf : ∀ j, jU (jK 28 1) I j ↔ I j := by
    intro j
    constructor
    · rintro (hj | hj)
      · skip
        obtain ⟨k, h1, h2, rfl⟩ := hj
        rcases (show k = 28 by omega) with rfl
        exact hup _ hroot
      · exact hup j hj
    · rintro (hj)
      · exact Or.inr hj
  have hMf : ∀ j, (jK 28 1) j → M9.1 j = m0 j := by
    intro j hj
    subst hw9
    obtain ⟨k, h1, h2, rfl⟩ := hj
    rcases (show k = 28 by omega) with rfl
    rw [mr_at]
  have hMo : ∀ j, I j → ¬ (jK 28 1) j → M9.1 j = M.1 j := by
    intro j hj hn
    subst hw9
    rw [mr_ne _ _ (fun e => hn (by rw [e]; simp [jK]))]
  have hWf : M9.2 = M.2 := by subst hw9; rfl
  have hFf : ∀ j, (jK 28 1) j → F j = f0 j := by
    intro j hj
    obtain ⟨k, h1, h2, rfl⟩ := hj
    rcases (show k = 28 by omega) with rfl
    funext q; simp [fu, nF, jF, jO, jS, jB, jC, jT, jK, cif_true, cif_false, f0, hF0] <;> grind
  have hFo : ∀ j, I j → ¬ (jK 28 1) j → F j = F j := by
    intro j hj hn
    rfl
  exact r2_ret (pc := 8) C (w2.fin (i := (28, 0, 0, 0)) (M := M) hP hIf hfr hMf hMo hWf hFf hFo) hxt (fun j hj hn => hnw j ((hIf j).mp hj) hn) hS (Nat.le_of_ble_eq_true rfl) (Nat.le_of_ble_eq_true rfl) dX7_init_8
abbrev rmI_X4 : Room := { frames := 1, cells := 1, slots := 48, locals := 20 }
theorem hd_X4_init : yX4_init.cls ≠ "java/lang/invoke/MethodHandle" ∧ yX4_init.cls ≠ "java/lang/invoke/VarHandle" ∧ (parseMethodDescriptor yX4_init.desc).map (fun d => d.parameters.length) = some 0 := ⟨by decide +kernel, by decide +kernel, by decide +kernel⟩
set_option maxHeartbeats 4000000 in
set_option maxRecDepth 100000 in
theorem kI_X4 (l : Launch) (G : GG) {I : ix → Prop} {ad : ix → Nat} {M : Mem} {F : Fm} {sz a : Nat} (ha : ad (26, 0, 0, 0) = a) (hroot : I (26, 0, 0, 0)) (hM0 : M.1 (26, 0, 0, 0) = fun _ => 0) (hF0 : F (26, 0, 0, 0) = fun _ => none) (hfr : ∀ i, I i → (jK 26 2) i → i = (26, 0, 0, 0)) (h27 : ∀ j, I j → j.1 ≠ 27) : Met l yX4_init (wW yX4_init cX4_init 1 none) rmI_X4 (iPc G I ad M F sz [.ref a]) (iQ G I ad (jU (jK 26 2) I) (jM (jK 26 2) (M.1, fun _ => 0)) (jF (jK 26 2) F) a sz) 1 48 (iA a sz) := by
  refine met_ofI (by decide +kernel) (Nat.le_of_ble_eq_true rfl) rfl (fun p e s m below meth c hsz C haK hin hP hS ls hl => ?_)
  have hx := C.1
  have hb := C.2.1
  have hown := C.2.2.2.1
  have hts := C.2.2.2.2.1
  have hA : ∀ q, s.heap.size ≤ q → iA a s.heap.size q := fun q h => Or.inr h
  have hI_t := hroot
  have hq_t := ha
  have hxt : ∀ j, I j → ad j = ad j := fun _ _ => rfl
  have hup : ∀ j, I j → I j := fun _ h => h
  have hnw : ∀ j, I j → ¬ I j → s.heap.size ≤ ad j := fun j h1 h2 => absurd h1 h2
  have hl : lv_has ls 1 [(0, .ref a)] := hl
  refine lv_aload_n (pc := 0) hx hb dX4_init_0 rfl (lv_at hl 0 rfl) ?_
  refine r2_obj (pc := 1) C hl.1 mw_256 mw_74 mw_75 dX4_init_1 (Nat.le_of_ble_eq_true rfl) (Nat.le_of_ble_eq_true rfl) ?_
  refine lv_aload_n (pc := 4) hx hb dX4_init_4 rfl (lv_at hl 0 rfl) ?_
  refine lv_bipush (pc := 5) (v := (48 : Int32)) hx hb dX4_init_5 (by decide) ?_
  have hf5 : ∀ i, I i → ¬ (jO (27, 0, 0, 0)) i := by
    intro i hi hJ
    have hJ2 : (jK 26 2) i := (by simp only [jK, jO] at hJ ⊢; grind)
    have he := hfr i hi hJ2
    subst he
    simp [jO] at hJ
  refine r2_newJ (pc := 7)  (A := iA a s.heap.size) C hP hS (fun h => hf5 _ h rfl) h27 mw_265 (by decide) (by decide) (Nat.le_of_ble_eq_true rfl) (Nat.le_of_ble_eq_true rfl) dX4_init_7 (fun q5 ad5 H e5 hx5 hz5 hP hS => ?_)
  have hP : w2 G (jU (jO (27, 0, 0, 0)) I) ad5 (jM (jO (27, 0, 0, 0)) (M.1, fun _ => 0)) (jF (jO (27, 0, 0, 0)) F) H := w2.toJ (M := (M.1, fun _ => 0)) hP rfl rfl
  replace hq_t := (hx5 _ hI_t).trans hq_t
  replace hI_t : (jU (jO (27, 0, 0, 0)) I) (26, 0, 0, 0) := Or.inr hI_t
  replace hxt : ∀ j, I j → ad5 j = ad j := fun j hj => (hx5 j (hup j hj)).trans (hxt j hj)
  replace hup : ∀ j, I j → (jU (jO (27, 0, 0, 0)) I) j := fun j hj => Or.inr (hup j hj)
  replace hnw : ∀ j, (jU (jO (27, 0, 0, 0)) I) j → ¬ I j → s.heap.size ≤ ad5 j := fun j hj hn => hj.elim (fun h => by have h : j = (27, 0, 0, 0) := h; rw [h, e5]; exact hz5) (fun h => by rw [hx5 j h]; exact hnw j h hn)
  have hI_n5 : (jU (jO (27, 0, 0, 0)) I) (27, 0, 0, 0) := Or.inl rfl
  have hq_n5 := e5
  have hA_n5 : iA a s.heap.size q5 := Or.inr hz5
  refine pF_259 (pc := 9) C hin hP hS hI_t hI_n5 (Or.inl rfl) hq_t hq_n5 dX4_init_9 (fun H locs hP hS => ?_)
  have hIf : ∀ j, jU (jK 26 2) I j ↔ (jU (jO (27, 0, 0, 0)) I) j := by
    intro j
    constructor
    · rintro (hj | hj)
      · skip
        obtain ⟨k, h1, h2, rfl⟩ := hj
        rcases (show k = 26 ∨ k = 27 by omega) with rfl | rfl
        · exact hup _ hroot
        · exact (Or.inl rfl)
      · exact hup j hj
    · rintro (hj | hj)
      · exact Or.inl (by simp only [jK, jO] at hj ⊢; grind)
      · exact Or.inr hj
  have hMf : ∀ j, (jK 26 2) j → (jM (jO (27, 0, 0, 0)) (M.1, fun _ => 0)).1 j = m0 j := by
    intro j hj
    obtain ⟨k, h1, h2, rfl⟩ := hj
    rcases (show k = 26 ∨ k = 27 by omega) with rfl | rfl
    · simp [jM, jO, cif_true, cif_false, m0, hM0]
    · simp [jM, jO, cif_true, cif_false, m0, hM0]
  have hMo : ∀ j, I j → ¬ (jK 26 2) j → (jM (jO (27, 0, 0, 0)) (M.1, fun _ => 0)).1 j = M.1 j := by
    intro j hj hn
    rw [jM_ne (fun h => hn (by simp only [jK, jO] at h ⊢; grind))]
  have hWf : (jM (jO (27, 0, 0, 0)) (M.1, fun _ => 0)).2 = (fun _ => 0) := by rfl
  have hFf : ∀ j, (jK 26 2) j → (fu (jF (jO (27, 0, 0, 0)) F) (26, 0, 0, 0) 1 (27, 0, 0, 0)) j = f0 j := by
    intro j hj
    obtain ⟨k, h1, h2, rfl⟩ := hj
    rcases (show k = 26 ∨ k = 27 by omega) with rfl | rfl
    · funext q; simp [fu, nF, jF, jO, jS, jB, jC, jT, jK, cif_true, cif_false, f0, hF0] <;> grind
    · exact (fu_in (by simp) (jF_in (Or.inl rfl)))
  have hFo : ∀ j, I j → ¬ (jK 26 2) j → (fu (jF (jO (27, 0, 0, 0)) F) (26, 0, 0, 0) 1 (27, 0, 0, 0)) j = F j := by
    intro j hj hn
    rw [fu_ne (fun e => hn (by rw [e]; simp [jK]))]
    rw [jF_ne (fun h => hn (by simp only [jK, jO] at h ⊢; grind))]
  exact r2_ret (pc := 12) C (w2.fin (i := (26, 0, 0, 0)) (M := (M.1, fun _ => 0)) hP hIf hfr hMf hMo hWf hFf hFo) hxt (fun j hj hn => hnw j ((hIf j).mp hj) hn) hS (Nat.le_of_ble_eq_true rfl) (Nat.le_of_ble_eq_true rfl) dX4_init_12
abbrev rmI_X3 : Room := { frames := 1, cells := 1, slots := 60, locals := 20 }
theorem hd_X3_init : yX3_init.cls ≠ "java/lang/invoke/MethodHandle" ∧ yX3_init.cls ≠ "java/lang/invoke/VarHandle" ∧ (parseMethodDescriptor yX3_init.desc).map (fun d => d.parameters.length) = some 1 := ⟨by decide +kernel, by decide +kernel, by decide +kernel⟩
set_option maxHeartbeats 4000000 in
set_option maxRecDepth 100000 in
theorem kI_X3 (l : Launch) (G : GG) {I : ix → Prop} {ad : ix → Nat} {M : Mem} {F : Fm} {sz a : Nat} (ha : ad (18, 0, 0, 0) = a) (hroot : I (18, 0, 0, 0)) (hM0 : M.1 (18, 0, 0, 0) = fun _ => 0) (hF0 : F (18, 0, 0, 0) = fun _ => none) (hfr : ∀ i, I i → (jK 18 2) i → i = (18, 0, 0, 0)) {b : Nat} (hI_q : I (11, 0, 0, 0)) (hq_q : ad (11, 0, 0, 0) = b) : Met l yX3_init (wW yX3_init cX3_init 2 none) rmI_X3 (iPc G I ad M F sz [.ref a, .ref b]) (iQ G I ad (jU (jK 18 2) I) (jM (jK 18 2) M) (jF (jK 18 2) F) a sz) 1 60 (iA a sz) := by
  refine met_ofI (by decide +kernel) (Nat.le_of_ble_eq_true rfl) rfl (fun p e s m below meth c hsz C haK hin hP hS ls hl => ?_)
  have hx := C.1
  have hb := C.2.1
  have hown := C.2.2.2.1
  have hts := C.2.2.2.2.1
  have hA : ∀ q, s.heap.size ≤ q → iA a s.heap.size q := fun q h => Or.inr h
  have hI_t := hroot
  have hq_t := ha
  have hxt : ∀ j, I j → ad j = ad j := fun _ _ => rfl
  have hup : ∀ j, I j → I j := fun _ h => h
  have hnw : ∀ j, I j → ¬ I j → s.heap.size ≤ ad j := fun j h1 h2 => absurd h1 h2
  have hl : lv_has ls 2 [(0, .ref a), (1, .ref b)] := hl
  refine lv_aload_n (pc := 0) hx hb dX3_init_0 rfl (lv_at hl 0 rfl) ?_
  refine r2_obj (pc := 1) C hl.1 mw_221 mw_74 mw_75 dX3_init_1 (Nat.le_of_ble_eq_true rfl) (Nat.le_of_ble_eq_true rfl) ?_
  refine lv_aload_n (pc := 4) hx hb dX3_init_4 rfl (lv_at hl 0 rfl) ?_
  refine lv_aload_n (pc := 5) hx hb dX3_init_5 rfl (lv_at hl 1 rfl) ?_
  refine pF_222 (pc := 6) C hin hP hS hI_t hI_q (Or.inl rfl) hq_t hq_q dX3_init_6 (fun H locs hP hS => ?_)
  refine lv_aload_n (pc := 9) hx hb dX3_init_9 rfl (lv_at hl 0 rfl) ?_
  refine lv_bipush (pc := 10) (v := (60 : Int32)) hx hb dX3_init_10 (by decide) ?_
  have hf8 : ∀ i, I i → ¬ (jO (19, 0, 0, 0)) i := by
    intro i hi hJ
    have hJ2 : (jK 18 2) i := (by simp only [jK, jO] at hJ ⊢; grind)
    have he := hfr i hi hJ2
    subst he
    simp [jO] at hJ
  refine r2_newI (pc := 12) (i := (19, 0, 0, 0)) (A := iA a s.heap.size) C hP hS (fun h => hf8 _ h rfl) (show (19 : Nat) ≠ 27 by decide) rfl mw_135 (by decide) (by decide) (Nat.le_of_ble_eq_true rfl) (Nat.le_of_ble_eq_true rfl) (Nat.le_of_ble_eq_true rfl) dX3_init_12 (fun q8 ad8 H e8 hx8 hz8 hP hS => ?_)
  replace hP := hP.toJ rfl rfl
  replace hq_t := (hx8 _ hI_t).trans hq_t
  replace hI_t : (jU (jO (19, 0, 0, 0)) I) (18, 0, 0, 0) := Or.inr hI_t
  replace hq_q := (hx8 _ hI_q).trans hq_q
  replace hI_q : (jU (jO (19, 0, 0, 0)) I) (11, 0, 0, 0) := Or.inr hI_q
  replace hxt : ∀ j, I j → ad8 j = ad j := fun j hj => (hx8 j (hup j hj)).trans (hxt j hj)
  replace hup : ∀ j, I j → (jU (jO (19, 0, 0, 0)) I) j := fun j hj => Or.inr (hup j hj)
  replace hnw : ∀ j, (jU (jO (19, 0, 0, 0)) I) j → ¬ I j → s.heap.size ≤ ad8 j := fun j hj hn => hj.elim (fun h => by have h : j = (19, 0, 0, 0) := h; rw [h, e8]; exact hz8) (fun h => by rw [hx8 j h]; exact hnw j h hn)
  have hI_n8 : (jU (jO (19, 0, 0, 0)) I) (19, 0, 0, 0) := Or.inl rfl
  have hq_n8 := e8
  have hA_n8 : iA a s.heap.size q8 := Or.inr hz8
  refine pF_223 (pc := 14) C hin hP hS hI_t hI_n8 (Or.inl rfl) hq_t hq_n8 dX3_init_14 (fun H locs hP hS => ?_)
  have hIf : ∀ j, jU (jK 18 2) I j ↔ (jU (jO (19, 0, 0, 0)) I) j := by
    intro j
    constructor
    · rintro (hj | hj)
      · skip
        obtain ⟨k, h1, h2, rfl⟩ := hj
        rcases (show k = 18 ∨ k = 19 by omega) with rfl | rfl
        · exact hup _ hroot
        · exact (Or.inl rfl)
      · exact hup j hj
    · rintro (hj | hj)
      · exact Or.inl (by simp only [jK, jO] at hj ⊢; grind)
      · exact Or.inr hj
  have hMf : ∀ j, (jK 18 2) j → (jM (jO (19, 0, 0, 0)) M).1 j = m0 j := by
    intro j hj
    obtain ⟨k, h1, h2, rfl⟩ := hj
    rcases (show k = 18 ∨ k = 19 by omega) with rfl | rfl
    · simp [jM, jO, cif_true, cif_false, m0, hM0]
    · simp [jM, jO, cif_true, cif_false, m0, hM0]
  have hMo : ∀ j, I j → ¬ (jK 18 2) j → (jM (jO (19, 0, 0, 0)) M).1 j = M.1 j := by
    intro j hj hn
    rw [jM_ne (fun h => hn (by simp only [jK, jO] at h ⊢; grind))]
  have hWf : (jM (jO (19, 0, 0, 0)) M).2 = M.2 := by rfl
  have hFf : ∀ j, (jK 18 2) j → (fu (jF (jO (19, 0, 0, 0)) (fu F (18, 0, 0, 0) 0 (11, 0, 0, 0))) (18, 0, 0, 0) 1 (19, 0, 0, 0)) j = f0 j := by
    intro j hj
    obtain ⟨k, h1, h2, rfl⟩ := hj
    rcases (show k = 18 ∨ k = 19 by omega) with rfl | rfl
    · funext q; simp [fu, nF, jF, jO, jS, jB, jC, jT, jK, cif_true, cif_false, f0, hF0] <;> grind
    · exact (fu_in (by simp) (jF_in (Or.inl rfl)))
  have hFo : ∀ j, I j → ¬ (jK 18 2) j → (fu (jF (jO (19, 0, 0, 0)) (fu F (18, 0, 0, 0) 0 (11, 0, 0, 0))) (18, 0, 0, 0) 1 (19, 0, 0, 0)) j = F j := by
    intro j hj hn
    rw [fu_ne (fun e => hn (by rw [e]; simp [jK]))]
    rw [jF_ne (fun h => hn (by simp only [jK, jO] at h ⊢; grind))]
    rw [fu_ne (fun e => hn (by rw [e]; simp [jK]))]
  exact r2_ret (pc := 17) C (w2.fin (i := (18, 0, 0, 0)) (M := M) hP hIf hfr hMf hMo hWf hFf hFo) hxt (fun j hj hn => hnw j ((hIf j).mp hj) hn) hS (Nat.le_of_ble_eq_true rfl) (Nat.le_of_ble_eq_true rfl) dX3_init_17
abbrev rmI_X2 : Room := { frames := 1, cells := 3, slots := 180, locals := 20 }
theorem hd_X2_init : yX2_init.cls ≠ "java/lang/invoke/MethodHandle" ∧ yX2_init.cls ≠ "java/lang/invoke/VarHandle" ∧ (parseMethodDescriptor yX2_init.desc).map (fun d => d.parameters.length) = some 1 := ⟨by decide +kernel, by decide +kernel, by decide +kernel⟩
set_option maxHeartbeats 4000000 in
set_option maxRecDepth 100000 in
theorem kI_X2 (l : Launch) (G : GG) {I : ix → Prop} {ad : ix → Nat} {M : Mem} {F : Fm} {sz a : Nat} (ha : ad (20, 0, 0, 0) = a) (hroot : I (20, 0, 0, 0)) (hM0 : M.1 (20, 0, 0, 0) = fun _ => 0) (hF0 : F (20, 0, 0, 0) = fun _ => none) (hfr : ∀ i, I i → (jK 20 4) i → i = (20, 0, 0, 0)) {b : Nat} (hI_q : I (11, 0, 0, 0)) (hq_q : ad (11, 0, 0, 0) = b) : Met l yX2_init (wW yX2_init cX2_init 2 none) rmI_X2 (iPc G I ad M F sz [.ref a, .ref b]) (iQ G I ad (jU (jK 20 4) I) (jM (jK 20 4) M) (jF (jK 20 4) F) a sz) 3 180 (iA a sz) := by
  refine met_ofI (by decide +kernel) (Nat.le_of_ble_eq_true rfl) rfl (fun p e s m below meth c hsz C haK hin hP hS ls hl => ?_)
  have hx := C.1
  have hb := C.2.1
  have hown := C.2.2.2.1
  have hts := C.2.2.2.2.1
  have hA : ∀ q, s.heap.size ≤ q → iA a s.heap.size q := fun q h => Or.inr h
  have hI_t := hroot
  have hq_t := ha
  have hxt : ∀ j, I j → ad j = ad j := fun _ _ => rfl
  have hup : ∀ j, I j → I j := fun _ h => h
  have hnw : ∀ j, I j → ¬ I j → s.heap.size ≤ ad j := fun j h1 h2 => absurd h1 h2
  have hl : lv_has ls 2 [(0, .ref a), (1, .ref b)] := hl
  refine lv_aload_n (pc := 0) hx hb dX2_init_0 rfl (lv_at hl 0 rfl) ?_
  refine r2_obj (pc := 1) C hl.1 mw_234 mw_74 mw_75 dX2_init_1 (Nat.le_of_ble_eq_true rfl) (Nat.le_of_ble_eq_true rfl) ?_
  refine lv_aload_n (pc := 4) hx hb dX2_init_4 rfl (lv_at hl 0 rfl) ?_
  refine lv_aload_n (pc := 5) hx hb dX2_init_5 rfl (lv_at hl 1 rfl) ?_
  refine pF_241 (pc := 6) C hin hP hS hI_t hI_q (Or.inl rfl) hq_t hq_q dX2_init_6 (fun H locs hP hS => ?_)
  refine lv_aload_n (pc := 9) hx hb dX2_init_9 rfl (lv_at hl 0 rfl) ?_
  refine lv_bipush (pc := 10) (v := (60 : Int32)) hx hb dX2_init_10 (by decide) ?_
  have hf8 : ∀ i, I i → ¬ (jO (21, 0, 0, 0)) i := by
    intro i hi hJ
    have hJ2 : (jK 20 4) i := (by simp only [jK, jO] at hJ ⊢; grind)
    have he := hfr i hi hJ2
    subst he
    simp [jO] at hJ
  refine r2_newI (pc := 12) (i := (21, 0, 0, 0)) (A := iA a s.heap.size) C hP hS (fun h => hf8 _ h rfl) (show (21 : Nat) ≠ 27 by decide) rfl mw_135 (by decide) (by decide) (Nat.le_of_ble_eq_true rfl) (Nat.le_of_ble_eq_true rfl) (Nat.le_of_ble_eq_true rfl) dX2_init_12 (fun q8 ad8 H e8 hx8 hz8 hP hS => ?_)
  replace hP := hP.toJ rfl rfl
  replace hq_t := (hx8 _ hI_t).trans hq_t
  replace hI_t : (jU (jO (21, 0, 0, 0)) I) (20, 0, 0, 0) := Or.inr hI_t
  replace hq_q := (hx8 _ hI_q).trans hq_q
  replace hI_q : (jU (jO (21, 0, 0, 0)) I) (11, 0, 0, 0) := Or.inr hI_q
  replace hxt : ∀ j, I j → ad8 j = ad j := fun j hj => (hx8 j (hup j hj)).trans (hxt j hj)
  replace hup : ∀ j, I j → (jU (jO (21, 0, 0, 0)) I) j := fun j hj => Or.inr (hup j hj)
  replace hnw : ∀ j, (jU (jO (21, 0, 0, 0)) I) j → ¬ I j → s.heap.size ≤ ad8 j := fun j hj hn => hj.elim (fun h => by have h : j = (21, 0, 0, 0) := h; rw [h, e8]; exact hz8) (fun h => by rw [hx8 j h]; exact hnw j h hn)
  have hI_n8 : (jU (jO (21, 0, 0, 0)) I) (21, 0, 0, 0) := Or.inl rfl
  have hq_n8 := e8
  have hA_n8 : iA a s.heap.size q8 := Or.inr hz8
  refine pF_235 (pc := 14) C hin hP hS hI_t hI_n8 (Or.inl rfl) hq_t hq_n8 dX2_init_14 (fun H locs hP hS => ?_)
  refine lv_aload_n (pc := 17) hx hb dX2_init_17 rfl (lv_at hl 0 rfl) ?_
  refine lv_bipush (pc := 18) (v := (60 : Int32)) hx hb dX2_init_18 (by decide) ?_
  have hf12 : ∀ i, (jU (jO (21, 0, 0, 0)) I) i → ¬ (jO (22, 0, 0, 0)) i := by
    intro i hi hJ
    have hJ2 : (jK 20 4) i := (by simp only [jK, jO] at hJ ⊢; grind)
    rcases hi with hi | hi
    · simp only [jO] at hi hJ
      grind
    · have he := hfr i hi hJ2
      subst he
      simp [jO] at hJ
  refine r2_newI (pc := 20) (i := (22, 0, 0, 0)) (A := iA a s.heap.size) C hP hS (fun h => hf12 _ h rfl) (show (22 : Nat) ≠ 27 by decide) rfl mw_135 (by decide) (by decide) (Nat.le_of_ble_eq_true rfl) (Nat.le_of_ble_eq_true rfl) (Nat.le_of_ble_eq_true rfl) dX2_init_20 (fun q12 ad12 H e12 hx12 hz12 hP hS => ?_)
  replace hP := hP.toJ rfl rfl
  replace hq_t := (hx12 _ hI_t).trans hq_t
  replace hI_t : (jU (jO (22, 0, 0, 0)) (jU (jO (21, 0, 0, 0)) I)) (20, 0, 0, 0) := Or.inr hI_t
  replace hq_q := (hx12 _ hI_q).trans hq_q
  replace hI_q : (jU (jO (22, 0, 0, 0)) (jU (jO (21, 0, 0, 0)) I)) (11, 0, 0, 0) := Or.inr hI_q
  replace hq_n8 := (hx12 _ hI_n8).trans hq_n8
  replace hI_n8 : (jU (jO (22, 0, 0, 0)) (jU (jO (21, 0, 0, 0)) I)) (21, 0, 0, 0) := Or.inr hI_n8
  replace hxt : ∀ j, I j → ad12 j = ad j := fun j hj => (hx12 j (hup j hj)).trans (hxt j hj)
  replace hup : ∀ j, I j → (jU (jO (22, 0, 0, 0)) (jU (jO (21, 0, 0, 0)) I)) j := fun j hj => Or.inr (hup j hj)
  replace hnw : ∀ j, (jU (jO (22, 0, 0, 0)) (jU (jO (21, 0, 0, 0)) I)) j → ¬ I j → s.heap.size ≤ ad12 j := fun j hj hn => hj.elim (fun h => by have h : j = (22, 0, 0, 0) := h; rw [h, e12]; exact hz12) (fun h => by rw [hx12 j h]; exact hnw j h hn)
  have hI_n12 : (jU (jO (22, 0, 0, 0)) (jU (jO (21, 0, 0, 0)) I)) (22, 0, 0, 0) := Or.inl rfl
  have hq_n12 := e12
  have hA_n12 : iA a s.heap.size q12 := Or.inr hz12
  refine pF_237 (pc := 22) C hin hP hS hI_t hI_n12 (Or.inl rfl) hq_t hq_n12 dX2_init_22 (fun H locs hP hS => ?_)
  refine lv_aload_n (pc := 25) hx hb dX2_init_25 rfl (lv_at hl 0 rfl) ?_
  refine lv_bipush (pc := 26) (v := (60 : Int32)) hx hb dX2_init_26 (by decide) ?_
  have hf16 : ∀ i, (jU (jO (22, 0, 0, 0)) (jU (jO (21, 0, 0, 0)) I)) i → ¬ (jO (23, 0, 0, 0)) i := by
    intro i hi hJ
    have hJ2 : (jK 20 4) i := (by simp only [jK, jO] at hJ ⊢; grind)
    rcases hi with hi | hi | hi
    · simp only [jO] at hi hJ
      grind
    · simp only [jO] at hi hJ
      grind
    · have he := hfr i hi hJ2
      subst he
      simp [jO] at hJ
  refine r2_newI (pc := 28) (i := (23, 0, 0, 0)) (A := iA a s.heap.size) C hP hS (fun h => hf16 _ h rfl) (show (23 : Nat) ≠ 27 by decide) rfl mw_135 (by decide) (by decide) (Nat.le_of_ble_eq_true rfl) (Nat.le_of_ble_eq_true rfl) (Nat.le_of_ble_eq_true rfl) dX2_init_28 (fun q16 ad16 H e16 hx16 hz16 hP hS => ?_)
  replace hP := hP.toJ rfl rfl
  replace hq_t := (hx16 _ hI_t).trans hq_t
  replace hI_t : (jU (jO (23, 0, 0, 0)) (jU (jO (22, 0, 0, 0)) (jU (jO (21, 0, 0, 0)) I))) (20, 0, 0, 0) := Or.inr hI_t
  replace hq_q := (hx16 _ hI_q).trans hq_q
  replace hI_q : (jU (jO (23, 0, 0, 0)) (jU (jO (22, 0, 0, 0)) (jU (jO (21, 0, 0, 0)) I))) (11, 0, 0, 0) := Or.inr hI_q
  replace hq_n8 := (hx16 _ hI_n8).trans hq_n8
  replace hI_n8 : (jU (jO (23, 0, 0, 0)) (jU (jO (22, 0, 0, 0)) (jU (jO (21, 0, 0, 0)) I))) (21, 0, 0, 0) := Or.inr hI_n8
  replace hq_n12 := (hx16 _ hI_n12).trans hq_n12
  replace hI_n12 : (jU (jO (23, 0, 0, 0)) (jU (jO (22, 0, 0, 0)) (jU (jO (21, 0, 0, 0)) I))) (22, 0, 0, 0) := Or.inr hI_n12
  replace hxt : ∀ j, I j → ad16 j = ad j := fun j hj => (hx16 j (hup j hj)).trans (hxt j hj)
  replace hup : ∀ j, I j → (jU (jO (23, 0, 0, 0)) (jU (jO (22, 0, 0, 0)) (jU (jO (21, 0, 0, 0)) I))) j := fun j hj => Or.inr (hup j hj)
  replace hnw : ∀ j, (jU (jO (23, 0, 0, 0)) (jU (jO (22, 0, 0, 0)) (jU (jO (21, 0, 0, 0)) I))) j → ¬ I j → s.heap.size ≤ ad16 j := fun j hj hn => hj.elim (fun h => by have h : j = (23, 0, 0, 0) := h; rw [h, e16]; exact hz16) (fun h => by rw [hx16 j h]; exact hnw j h hn)
  have hI_n16 : (jU (jO (23, 0, 0, 0)) (jU (jO (22, 0, 0, 0)) (jU (jO (21, 0, 0, 0)) I))) (23, 0, 0, 0) := Or.inl rfl
  have hq_n16 := e16
  have hA_n16 : iA a s.heap.size q16 := Or.inr hz16
  refine pF_239 (pc := 30) C hin hP hS hI_t hI_n16 (Or.inl rfl) hq_t hq_n16 dX2_init_30 (fun H locs hP hS => ?_)
  have hIf : ∀ j, jU (jK 20 4) I j ↔ (jU (jO (23, 0, 0, 0)) (jU (jO (22, 0, 0, 0)) (jU (jO (21, 0, 0, 0)) I))) j := by
    intro j
    constructor
    · rintro (hj | hj)
      · skip
        obtain ⟨k, h1, h2, rfl⟩ := hj
        rcases (show k = 20 ∨ k = 21 ∨ k = 22 ∨ k = 23 by omega) with rfl | rfl | rfl | rfl
        · exact hup _ hroot
        · exact (Or.inr (Or.inr (Or.inl rfl)))
        · exact (Or.inr (Or.inl rfl))
        · exact (Or.inl rfl)
      · exact hup j hj
    · rintro (hj | hj | hj | hj)
      · exact Or.inl (by simp only [jK, jO] at hj ⊢; grind)
      · exact Or.inl (by simp only [jK, jO] at hj ⊢; grind)
      · exact Or.inl (by simp only [jK, jO] at hj ⊢; grind)
      · exact Or.inr hj
  have hMf : ∀ j, (jK 20 4) j → (jM (jO (23, 0, 0, 0)) (jM (jO (22, 0, 0, 0)) (jM (jO (21, 0, 0, 0)) M))).1 j = m0 j := by
    intro j hj
    obtain ⟨k, h1, h2, rfl⟩ := hj
    rcases (show k = 20 ∨ k = 21 ∨ k = 22 ∨ k = 23 by omega) with rfl | rfl | rfl | rfl
    · simp [jM, jO, cif_true, cif_false, m0, hM0]
    · simp [jM, jO, cif_true, cif_false, m0, hM0]
    · simp [jM, jO, cif_true, cif_false, m0, hM0]
    · simp [jM, jO, cif_true, cif_false, m0, hM0]
  have hMo : ∀ j, I j → ¬ (jK 20 4) j → (jM (jO (23, 0, 0, 0)) (jM (jO (22, 0, 0, 0)) (jM (jO (21, 0, 0, 0)) M))).1 j = M.1 j := by
    intro j hj hn
    rw [jM_ne (fun h => hn (by simp only [jK, jO] at h ⊢; grind))]
    rw [jM_ne (fun h => hn (by simp only [jK, jO] at h ⊢; grind))]
    rw [jM_ne (fun h => hn (by simp only [jK, jO] at h ⊢; grind))]
  have hWf : (jM (jO (23, 0, 0, 0)) (jM (jO (22, 0, 0, 0)) (jM (jO (21, 0, 0, 0)) M))).2 = M.2 := by rfl
  have hFf : ∀ j, (jK 20 4) j → (fu (jF (jO (23, 0, 0, 0)) (fu (jF (jO (22, 0, 0, 0)) (fu (jF (jO (21, 0, 0, 0)) (fu F (20, 0, 0, 0) 3 (11, 0, 0, 0))) (20, 0, 0, 0) 0 (21, 0, 0, 0))) (20, 0, 0, 0) 1 (22, 0, 0, 0))) (20, 0, 0, 0) 2 (23, 0, 0, 0)) j = f0 j := by
    intro j hj
    obtain ⟨k, h1, h2, rfl⟩ := hj
    rcases (show k = 20 ∨ k = 21 ∨ k = 22 ∨ k = 23 by omega) with rfl | rfl | rfl | rfl
    · funext q; simp [fu, nF, jF, jO, jS, jB, jC, jT, jK, cif_true, cif_false, f0, hF0] <;> grind
    · exact (fu_in (by simp) (jF_in (Or.inr (fu_in (by simp) (jF_in (Or.inr (fu_in (by simp) (jF_in (Or.inl rfl)))))))))
    · exact (fu_in (by simp) (jF_in (Or.inr (fu_in (by simp) (jF_in (Or.inl rfl))))))
    · exact (fu_in (by simp) (jF_in (Or.inl rfl)))
  have hFo : ∀ j, I j → ¬ (jK 20 4) j → (fu (jF (jO (23, 0, 0, 0)) (fu (jF (jO (22, 0, 0, 0)) (fu (jF (jO (21, 0, 0, 0)) (fu F (20, 0, 0, 0) 3 (11, 0, 0, 0))) (20, 0, 0, 0) 0 (21, 0, 0, 0))) (20, 0, 0, 0) 1 (22, 0, 0, 0))) (20, 0, 0, 0) 2 (23, 0, 0, 0)) j = F j := by
    intro j hj hn
    rw [fu_ne (fun e => hn (by rw [e]; simp [jK]))]
    rw [jF_ne (fun h => hn (by simp only [jK, jO] at h ⊢; grind))]
    rw [fu_ne (fun e => hn (by rw [e]; simp [jK]))]
    rw [jF_ne (fun h => hn (by simp only [jK, jO] at h ⊢; grind))]
    rw [fu_ne (fun e => hn (by rw [e]; simp [jK]))]
    rw [jF_ne (fun h => hn (by simp only [jK, jO] at h ⊢; grind))]
    rw [fu_ne (fun e => hn (by rw [e]; simp [jK]))]
  exact r2_ret (pc := 33) C (w2.fin (i := (20, 0, 0, 0)) (M := M) hP hIf hfr hMf hMo hWf hFf hFo) hxt (fun j hj hn => hnw j ((hIf j).mp hj) hn) hS (Nat.le_of_ble_eq_true rfl) (Nat.le_of_ble_eq_true rfl) dX2_init_33
abbrev rmI_X1 : Room := { frames := 2, cells := 6, slots := 421, locals := 41 }
theorem hd_X1_init : yX1_init.cls ≠ "java/lang/invoke/MethodHandle" ∧ yX1_init.cls ≠ "java/lang/invoke/VarHandle" ∧ (parseMethodDescriptor yX1_init.desc).map (fun d => d.parameters.length) = some 0 := ⟨by decide +kernel, by decide +kernel, by decide +kernel⟩
set_option maxHeartbeats 4000000 in
set_option maxRecDepth 100000 in
theorem kI_X1 (l : Launch) (G : GG) {I : ix → Prop} {ad : ix → Nat} {M : Mem} {F : Fm} {sz a : Nat} (ha : ad (11, 0, 0, 0) = a) (hroot : I (11, 0, 0, 0)) (hM0 : M.1 (11, 0, 0, 0) = fun _ => 0) (hF0 : F (11, 0, 0, 0) = fun _ => none) (hfr : ∀ i, I i → (jK 11 7) i → i = (11, 0, 0, 0)) : Met l yX1_init (wW yX1_init cX1_init 1 none) rmI_X1 (iPc G I ad M F sz [.ref a]) (iQ G I ad (jU (jK 11 7) I) (jM (jK 11 7) M) (jF (jK 11 7) F) a sz) 6 421 (iA a sz) := by
  refine met_ofI (by decide +kernel) (Nat.le_of_ble_eq_true rfl) rfl (fun p e s m below meth c hsz C haK hin hP hS ls hl => ?_)
  have hx := C.1
  have hb := C.2.1
  have hown := C.2.2.2.1
  have hts := C.2.2.2.2.1
  have hA : ∀ q, s.heap.size ≤ q → iA a s.heap.size q := fun q h => Or.inr h
  have hI_t := hroot
  have hq_t := ha
  have hxt : ∀ j, I j → ad j = ad j := fun _ _ => rfl
  have hup : ∀ j, I j → I j := fun _ h => h
  have hnw : ∀ j, I j → ¬ I j → s.heap.size ≤ ad j := fun j h1 h2 => absurd h1 h2
  have hl : lv_has ls 1 [(0, .ref a)] := hl
  refine lv_aload_n (pc := 0) hx hb dX1_init_0 rfl (lv_at hl 0 rfl) ?_
  refine r2_obj (pc := 1) C hl.1 mw_166 mw_74 mw_75 dX1_init_1 (Nat.le_of_ble_eq_true rfl) (Nat.le_of_ble_eq_true rfl) ?_
  refine lv_aload_n (pc := 4) hx hb dX1_init_4 rfl (lv_at hl 0 rfl) ?_
  refine lv_bipush (pc := 5) (v := (60 : Int32)) hx hb dX1_init_5 (by decide) ?_
  have hf5 : ∀ i, I i → ¬ (jO (12, 0, 0, 0)) i := by
    intro i hi hJ
    have hJ2 : (jK 11 7) i := (by simp only [jK, jO] at hJ ⊢; grind)
    have he := hfr i hi hJ2
    subst he
    simp [jO] at hJ
  refine r2_newI (pc := 7) (i := (12, 0, 0, 0)) (A := iA a s.heap.size) C hP hS (fun h => hf5 _ h rfl) (show (12 : Nat) ≠ 27 by decide) rfl mw_135 (by decide) (by decide) (Nat.le_of_ble_eq_true rfl) (Nat.le_of_ble_eq_true rfl) (Nat.le_of_ble_eq_true rfl) dX1_init_7 (fun q5 ad5 H e5 hx5 hz5 hP hS => ?_)
  replace hP := hP.toJ rfl rfl
  replace hq_t := (hx5 _ hI_t).trans hq_t
  replace hI_t : (jU (jO (12, 0, 0, 0)) I) (11, 0, 0, 0) := Or.inr hI_t
  replace hxt : ∀ j, I j → ad5 j = ad j := fun j hj => (hx5 j (hup j hj)).trans (hxt j hj)
  replace hup : ∀ j, I j → (jU (jO (12, 0, 0, 0)) I) j := fun j hj => Or.inr (hup j hj)
  replace hnw : ∀ j, (jU (jO (12, 0, 0, 0)) I) j → ¬ I j → s.heap.size ≤ ad5 j := fun j hj hn => hj.elim (fun h => by have h : j = (12, 0, 0, 0) := h; rw [h, e5]; exact hz5) (fun h => by rw [hx5 j h]; exact hnw j h hn)
  have hI_n5 : (jU (jO (12, 0, 0, 0)) I) (12, 0, 0, 0) := Or.inl rfl
  have hq_n5 := e5
  have hA_n5 : iA a s.heap.size q5 := Or.inr hz5
  refine pF_180 (pc := 9) C hin hP hS hI_t hI_n5 (Or.inl rfl) hq_t hq_n5 dX1_init_9 (fun H locs hP hS => ?_)
  refine lv_aload_n (pc := 12) hx hb dX1_init_12 rfl (lv_at hl 0 rfl) ?_
  refine lv_bipush (pc := 13) (v := (60 : Int32)) hx hb dX1_init_13 (by decide) ?_
  have hf9 : ∀ i, (jU (jO (12, 0, 0, 0)) I) i → ¬ (jO (13, 0, 0, 0)) i := by
    intro i hi hJ
    have hJ2 : (jK 11 7) i := (by simp only [jK, jO] at hJ ⊢; grind)
    rcases hi with hi | hi
    · simp only [jO] at hi hJ
      grind
    · have he := hfr i hi hJ2
      subst he
      simp [jO] at hJ
  refine r2_newI (pc := 15) (i := (13, 0, 0, 0)) (A := iA a s.heap.size) C hP hS (fun h => hf9 _ h rfl) (show (13 : Nat) ≠ 27 by decide) rfl mw_135 (by decide) (by decide) (Nat.le_of_ble_eq_true rfl) (Nat.le_of_ble_eq_true rfl) (Nat.le_of_ble_eq_true rfl) dX1_init_15 (fun q9 ad9 H e9 hx9 hz9 hP hS => ?_)
  replace hP := hP.toJ rfl rfl
  replace hq_t := (hx9 _ hI_t).trans hq_t
  replace hI_t : (jU (jO (13, 0, 0, 0)) (jU (jO (12, 0, 0, 0)) I)) (11, 0, 0, 0) := Or.inr hI_t
  replace hq_n5 := (hx9 _ hI_n5).trans hq_n5
  replace hI_n5 : (jU (jO (13, 0, 0, 0)) (jU (jO (12, 0, 0, 0)) I)) (12, 0, 0, 0) := Or.inr hI_n5
  replace hxt : ∀ j, I j → ad9 j = ad j := fun j hj => (hx9 j (hup j hj)).trans (hxt j hj)
  replace hup : ∀ j, I j → (jU (jO (13, 0, 0, 0)) (jU (jO (12, 0, 0, 0)) I)) j := fun j hj => Or.inr (hup j hj)
  replace hnw : ∀ j, (jU (jO (13, 0, 0, 0)) (jU (jO (12, 0, 0, 0)) I)) j → ¬ I j → s.heap.size ≤ ad9 j := fun j hj hn => hj.elim (fun h => by have h : j = (13, 0, 0, 0) := h; rw [h, e9]; exact hz9) (fun h => by rw [hx9 j h]; exact hnw j h hn)
  have hI_n9 : (jU (jO (13, 0, 0, 0)) (jU (jO (12, 0, 0, 0)) I)) (13, 0, 0, 0) := Or.inl rfl
  have hq_n9 := e9
  have hA_n9 : iA a s.heap.size q9 := Or.inr hz9
  refine pF_183 (pc := 17) C hin hP hS hI_t hI_n9 (Or.inl rfl) hq_t hq_n9 dX1_init_17 (fun H locs hP hS => ?_)
  refine lv_aload_n (pc := 20) hx hb dX1_init_20 rfl (lv_at hl 0 rfl) ?_
  refine lv_bipush (pc := 21) (v := (60 : Int32)) hx hb dX1_init_21 (by decide) ?_
  have hf13 : ∀ i, (jU (jO (13, 0, 0, 0)) (jU (jO (12, 0, 0, 0)) I)) i → ¬ (jO (14, 0, 0, 0)) i := by
    intro i hi hJ
    have hJ2 : (jK 11 7) i := (by simp only [jK, jO] at hJ ⊢; grind)
    rcases hi with hi | hi | hi
    · simp only [jO] at hi hJ
      grind
    · simp only [jO] at hi hJ
      grind
    · have he := hfr i hi hJ2
      subst he
      simp [jO] at hJ
  refine r2_newI (pc := 23) (i := (14, 0, 0, 0)) (A := iA a s.heap.size) C hP hS (fun h => hf13 _ h rfl) (show (14 : Nat) ≠ 27 by decide) rfl mw_135 (by decide) (by decide) (Nat.le_of_ble_eq_true rfl) (Nat.le_of_ble_eq_true rfl) (Nat.le_of_ble_eq_true rfl) dX1_init_23 (fun q13 ad13 H e13 hx13 hz13 hP hS => ?_)
  replace hP := hP.toJ rfl rfl
  replace hq_t := (hx13 _ hI_t).trans hq_t
  replace hI_t : (jU (jO (14, 0, 0, 0)) (jU (jO (13, 0, 0, 0)) (jU (jO (12, 0, 0, 0)) I))) (11, 0, 0, 0) := Or.inr hI_t
  replace hq_n5 := (hx13 _ hI_n5).trans hq_n5
  replace hI_n5 : (jU (jO (14, 0, 0, 0)) (jU (jO (13, 0, 0, 0)) (jU (jO (12, 0, 0, 0)) I))) (12, 0, 0, 0) := Or.inr hI_n5
  replace hq_n9 := (hx13 _ hI_n9).trans hq_n9
  replace hI_n9 : (jU (jO (14, 0, 0, 0)) (jU (jO (13, 0, 0, 0)) (jU (jO (12, 0, 0, 0)) I))) (13, 0, 0, 0) := Or.inr hI_n9
  replace hxt : ∀ j, I j → ad13 j = ad j := fun j hj => (hx13 j (hup j hj)).trans (hxt j hj)
  replace hup : ∀ j, I j → (jU (jO (14, 0, 0, 0)) (jU (jO (13, 0, 0, 0)) (jU (jO (12, 0, 0, 0)) I))) j := fun j hj => Or.inr (hup j hj)
  replace hnw : ∀ j, (jU (jO (14, 0, 0, 0)) (jU (jO (13, 0, 0, 0)) (jU (jO (12, 0, 0, 0)) I))) j → ¬ I j → s.heap.size ≤ ad13 j := fun j hj hn => hj.elim (fun h => by have h : j = (14, 0, 0, 0) := h; rw [h, e13]; exact hz13) (fun h => by rw [hx13 j h]; exact hnw j h hn)
  have hI_n13 : (jU (jO (14, 0, 0, 0)) (jU (jO (13, 0, 0, 0)) (jU (jO (12, 0, 0, 0)) I))) (14, 0, 0, 0) := Or.inl rfl
  have hq_n13 := e13
  have hA_n13 : iA a s.heap.size q13 := Or.inr hz13
  refine pF_187 (pc := 25) C hin hP hS hI_t hI_n13 (Or.inl rfl) hq_t hq_n13 dX1_init_25 (fun H locs hP hS => ?_)
  refine lv_aload_n (pc := 28) hx hb dX1_init_28 rfl (lv_at hl 0 rfl) ?_
  refine lv_bipush (pc := 29) (v := (60 : Int32)) hx hb dX1_init_29 (by decide) ?_
  have hf17 : ∀ i, (jU (jO (14, 0, 0, 0)) (jU (jO (13, 0, 0, 0)) (jU (jO (12, 0, 0, 0)) I))) i → ¬ (jO (15, 0, 0, 0)) i := by
    intro i hi hJ
    have hJ2 : (jK 11 7) i := (by simp only [jK, jO] at hJ ⊢; grind)
    rcases hi with hi | hi | hi | hi
    · simp only [jO] at hi hJ
      grind
    · simp only [jO] at hi hJ
      grind
    · simp only [jO] at hi hJ
      grind
    · have he := hfr i hi hJ2
      subst he
      simp [jO] at hJ
  refine r2_newI (pc := 31) (i := (15, 0, 0, 0)) (A := iA a s.heap.size) C hP hS (fun h => hf17 _ h rfl) (show (15 : Nat) ≠ 27 by decide) rfl mw_135 (by decide) (by decide) (Nat.le_of_ble_eq_true rfl) (Nat.le_of_ble_eq_true rfl) (Nat.le_of_ble_eq_true rfl) dX1_init_31 (fun q17 ad17 H e17 hx17 hz17 hP hS => ?_)
  replace hP := hP.toJ rfl rfl
  replace hq_t := (hx17 _ hI_t).trans hq_t
  replace hI_t : (jU (jO (15, 0, 0, 0)) (jU (jO (14, 0, 0, 0)) (jU (jO (13, 0, 0, 0)) (jU (jO (12, 0, 0, 0)) I)))) (11, 0, 0, 0) := Or.inr hI_t
  replace hq_n5 := (hx17 _ hI_n5).trans hq_n5
  replace hI_n5 : (jU (jO (15, 0, 0, 0)) (jU (jO (14, 0, 0, 0)) (jU (jO (13, 0, 0, 0)) (jU (jO (12, 0, 0, 0)) I)))) (12, 0, 0, 0) := Or.inr hI_n5
  replace hq_n9 := (hx17 _ hI_n9).trans hq_n9
  replace hI_n9 : (jU (jO (15, 0, 0, 0)) (jU (jO (14, 0, 0, 0)) (jU (jO (13, 0, 0, 0)) (jU (jO (12, 0, 0, 0)) I)))) (13, 0, 0, 0) := Or.inr hI_n9
  replace hq_n13 := (hx17 _ hI_n13).trans hq_n13
  replace hI_n13 : (jU (jO (15, 0, 0, 0)) (jU (jO (14, 0, 0, 0)) (jU (jO (13, 0, 0, 0)) (jU (jO (12, 0, 0, 0)) I)))) (14, 0, 0, 0) := Or.inr hI_n13
  replace hxt : ∀ j, I j → ad17 j = ad j := fun j hj => (hx17 j (hup j hj)).trans (hxt j hj)
  replace hup : ∀ j, I j → (jU (jO (15, 0, 0, 0)) (jU (jO (14, 0, 0, 0)) (jU (jO (13, 0, 0, 0)) (jU (jO (12, 0, 0, 0)) I)))) j := fun j hj => Or.inr (hup j hj)
  replace hnw : ∀ j, (jU (jO (15, 0, 0, 0)) (jU (jO (14, 0, 0, 0)) (jU (jO (13, 0, 0, 0)) (jU (jO (12, 0, 0, 0)) I)))) j → ¬ I j → s.heap.size ≤ ad17 j := fun j hj hn => hj.elim (fun h => by have h : j = (15, 0, 0, 0) := h; rw [h, e17]; exact hz17) (fun h => by rw [hx17 j h]; exact hnw j h hn)
  have hI_n17 : (jU (jO (15, 0, 0, 0)) (jU (jO (14, 0, 0, 0)) (jU (jO (13, 0, 0, 0)) (jU (jO (12, 0, 0, 0)) I)))) (15, 0, 0, 0) := Or.inl rfl
  have hq_n17 := e17
  have hA_n17 : iA a s.heap.size q17 := Or.inr hz17
  refine pF_190 (pc := 33) C hin hP hS hI_t hI_n17 (Or.inl rfl) hq_t hq_n17 dX1_init_33 (fun H locs hP hS => ?_)
  refine lv_aload_n (pc := 36) hx hb dX1_init_36 rfl (lv_at hl 0 rfl) ?_
  refine lv_bipush (pc := 37) (v := (60 : Int32)) hx hb dX1_init_37 (by decide) ?_
  have hf21 : ∀ i, (jU (jO (15, 0, 0, 0)) (jU (jO (14, 0, 0, 0)) (jU (jO (13, 0, 0, 0)) (jU (jO (12, 0, 0, 0)) I)))) i → ¬ (jO (16, 0, 0, 0)) i := by
    intro i hi hJ
    have hJ2 : (jK 11 7) i := (by simp only [jK, jO] at hJ ⊢; grind)
    rcases hi with hi | hi | hi | hi | hi
    · simp only [jO] at hi hJ
      grind
    · simp only [jO] at hi hJ
      grind
    · simp only [jO] at hi hJ
      grind
    · simp only [jO] at hi hJ
      grind
    · have he := hfr i hi hJ2
      subst he
      simp [jO] at hJ
  refine r2_newI (pc := 39) (i := (16, 0, 0, 0)) (A := iA a s.heap.size) C hP hS (fun h => hf21 _ h rfl) (show (16 : Nat) ≠ 27 by decide) rfl mw_135 (by decide) (by decide) (Nat.le_of_ble_eq_true rfl) (Nat.le_of_ble_eq_true rfl) (Nat.le_of_ble_eq_true rfl) dX1_init_39 (fun q21 ad21 H e21 hx21 hz21 hP hS => ?_)
  replace hP := hP.toJ rfl rfl
  replace hq_t := (hx21 _ hI_t).trans hq_t
  replace hI_t : (jU (jO (16, 0, 0, 0)) (jU (jO (15, 0, 0, 0)) (jU (jO (14, 0, 0, 0)) (jU (jO (13, 0, 0, 0)) (jU (jO (12, 0, 0, 0)) I))))) (11, 0, 0, 0) := Or.inr hI_t
  replace hq_n5 := (hx21 _ hI_n5).trans hq_n5
  replace hI_n5 : (jU (jO (16, 0, 0, 0)) (jU (jO (15, 0, 0, 0)) (jU (jO (14, 0, 0, 0)) (jU (jO (13, 0, 0, 0)) (jU (jO (12, 0, 0, 0)) I))))) (12, 0, 0, 0) := Or.inr hI_n5
  replace hq_n9 := (hx21 _ hI_n9).trans hq_n9
  replace hI_n9 : (jU (jO (16, 0, 0, 0)) (jU (jO (15, 0, 0, 0)) (jU (jO (14, 0, 0, 0)) (jU (jO (13, 0, 0, 0)) (jU (jO (12, 0, 0, 0)) I))))) (13, 0, 0, 0) := Or.inr hI_n9
  replace hq_n13 := (hx21 _ hI_n13).trans hq_n13
  replace hI_n13 : (jU (jO (16, 0, 0, 0)) (jU (jO (15, 0, 0, 0)) (jU (jO (14, 0, 0, 0)) (jU (jO (13, 0, 0, 0)) (jU (jO (12, 0, 0, 0)) I))))) (14, 0, 0, 0) := Or.inr hI_n13
  replace hq_n17 := (hx21 _ hI_n17).trans hq_n17
  replace hI_n17 : (jU (jO (16, 0, 0, 0)) (jU (jO (15, 0, 0, 0)) (jU (jO (14, 0, 0, 0)) (jU (jO (13, 0, 0, 0)) (jU (jO (12, 0, 0, 0)) I))))) (15, 0, 0, 0) := Or.inr hI_n17
  replace hxt : ∀ j, I j → ad21 j = ad j := fun j hj => (hx21 j (hup j hj)).trans (hxt j hj)
  replace hup : ∀ j, I j → (jU (jO (16, 0, 0, 0)) (jU (jO (15, 0, 0, 0)) (jU (jO (14, 0, 0, 0)) (jU (jO (13, 0, 0, 0)) (jU (jO (12, 0, 0, 0)) I))))) j := fun j hj => Or.inr (hup j hj)
  replace hnw : ∀ j, (jU (jO (16, 0, 0, 0)) (jU (jO (15, 0, 0, 0)) (jU (jO (14, 0, 0, 0)) (jU (jO (13, 0, 0, 0)) (jU (jO (12, 0, 0, 0)) I))))) j → ¬ I j → s.heap.size ≤ ad21 j := fun j hj hn => hj.elim (fun h => by have h : j = (16, 0, 0, 0) := h; rw [h, e21]; exact hz21) (fun h => by rw [hx21 j h]; exact hnw j h hn)
  have hI_n21 : (jU (jO (16, 0, 0, 0)) (jU (jO (15, 0, 0, 0)) (jU (jO (14, 0, 0, 0)) (jU (jO (13, 0, 0, 0)) (jU (jO (12, 0, 0, 0)) I))))) (16, 0, 0, 0) := Or.inl rfl
  have hq_n21 := e21
  have hA_n21 : iA a s.heap.size q21 := Or.inr hz21
  refine pF_193 (pc := 41) C hin hP hS hI_t hI_n21 (Or.inl rfl) hq_t hq_n21 dX1_init_41 (fun H locs hP hS => ?_)
  refine lv_aload_n (pc := 44) hx hb dX1_init_44 rfl (lv_at hl 0 rfl) ?_
  refine lv_bipush (pc := 45) (v := (121 : Int32)) hx hb dX1_init_45 (by decide) ?_
  have hf25 : ∀ i, (jU (jO (16, 0, 0, 0)) (jU (jO (15, 0, 0, 0)) (jU (jO (14, 0, 0, 0)) (jU (jO (13, 0, 0, 0)) (jU (jO (12, 0, 0, 0)) I))))) i → ¬ (jO (17, 0, 0, 0)) i := by
    intro i hi hJ
    have hJ2 : (jK 11 7) i := (by simp only [jK, jO] at hJ ⊢; grind)
    rcases hi with hi | hi | hi | hi | hi | hi
    · simp only [jO] at hi hJ
      grind
    · simp only [jO] at hi hJ
      grind
    · simp only [jO] at hi hJ
      grind
    · simp only [jO] at hi hJ
      grind
    · simp only [jO] at hi hJ
      grind
    · have he := hfr i hi hJ2
      subst he
      simp [jO] at hJ
  refine r2_newI (pc := 47) (i := (17, 0, 0, 0)) (A := iA a s.heap.size) C hP hS (fun h => hf25 _ h rfl) (show (17 : Nat) ≠ 27 by decide) rfl mw_135 (by decide) (by decide) (Nat.le_of_ble_eq_true rfl) (Nat.le_of_ble_eq_true rfl) (Nat.le_of_ble_eq_true rfl) dX1_init_47 (fun q25 ad25 H e25 hx25 hz25 hP hS => ?_)
  replace hP : w2 G (jU (jO (17, 0, 0, 0)) (jU (jO (16, 0, 0, 0)) (jU (jO (15, 0, 0, 0)) (jU (jO (14, 0, 0, 0)) (jU (jO (13, 0, 0, 0)) (jU (jO (12, 0, 0, 0)) I)))))) ad25 (mr (jM (jO (16, 0, 0, 0)) (jM (jO (15, 0, 0, 0)) (jM (jO (14, 0, 0, 0)) (jM (jO (13, 0, 0, 0)) (jM (jO (12, 0, 0, 0)) M))))) (17, 0, 0, 0) (fun _ => 0)) (jF (jO (17, 0, 0, 0)) (fu (jF (jO (16, 0, 0, 0)) (fu (jF (jO (15, 0, 0, 0)) (fu (jF (jO (14, 0, 0, 0)) (fu (jF (jO (13, 0, 0, 0)) (fu (jF (jO (12, 0, 0, 0)) F) (11, 0, 0, 0) 1 (12, 0, 0, 0))) (11, 0, 0, 0) 2 (13, 0, 0, 0))) (11, 0, 0, 0) 3 (14, 0, 0, 0))) (11, 0, 0, 0) 4 (15, 0, 0, 0))) (11, 0, 0, 0) 5 (16, 0, 0, 0))) H := by rw [← jF_one (i := (17, 0, 0, 0)) rfl]; exact hP
  replace hq_t := (hx25 _ hI_t).trans hq_t
  replace hI_t : (jU (jO (17, 0, 0, 0)) (jU (jO (16, 0, 0, 0)) (jU (jO (15, 0, 0, 0)) (jU (jO (14, 0, 0, 0)) (jU (jO (13, 0, 0, 0)) (jU (jO (12, 0, 0, 0)) I)))))) (11, 0, 0, 0) := Or.inr hI_t
  replace hq_n5 := (hx25 _ hI_n5).trans hq_n5
  replace hI_n5 : (jU (jO (17, 0, 0, 0)) (jU (jO (16, 0, 0, 0)) (jU (jO (15, 0, 0, 0)) (jU (jO (14, 0, 0, 0)) (jU (jO (13, 0, 0, 0)) (jU (jO (12, 0, 0, 0)) I)))))) (12, 0, 0, 0) := Or.inr hI_n5
  replace hq_n9 := (hx25 _ hI_n9).trans hq_n9
  replace hI_n9 : (jU (jO (17, 0, 0, 0)) (jU (jO (16, 0, 0, 0)) (jU (jO (15, 0, 0, 0)) (jU (jO (14, 0, 0, 0)) (jU (jO (13, 0, 0, 0)) (jU (jO (12, 0, 0, 0)) I)))))) (13, 0, 0, 0) := Or.inr hI_n9
  replace hq_n13 := (hx25 _ hI_n13).trans hq_n13
  replace hI_n13 : (jU (jO (17, 0, 0, 0)) (jU (jO (16, 0, 0, 0)) (jU (jO (15, 0, 0, 0)) (jU (jO (14, 0, 0, 0)) (jU (jO (13, 0, 0, 0)) (jU (jO (12, 0, 0, 0)) I)))))) (14, 0, 0, 0) := Or.inr hI_n13
  replace hq_n17 := (hx25 _ hI_n17).trans hq_n17
  replace hI_n17 : (jU (jO (17, 0, 0, 0)) (jU (jO (16, 0, 0, 0)) (jU (jO (15, 0, 0, 0)) (jU (jO (14, 0, 0, 0)) (jU (jO (13, 0, 0, 0)) (jU (jO (12, 0, 0, 0)) I)))))) (15, 0, 0, 0) := Or.inr hI_n17
  replace hq_n21 := (hx25 _ hI_n21).trans hq_n21
  replace hI_n21 : (jU (jO (17, 0, 0, 0)) (jU (jO (16, 0, 0, 0)) (jU (jO (15, 0, 0, 0)) (jU (jO (14, 0, 0, 0)) (jU (jO (13, 0, 0, 0)) (jU (jO (12, 0, 0, 0)) I)))))) (16, 0, 0, 0) := Or.inr hI_n21
  replace hxt : ∀ j, I j → ad25 j = ad j := fun j hj => (hx25 j (hup j hj)).trans (hxt j hj)
  replace hup : ∀ j, I j → (jU (jO (17, 0, 0, 0)) (jU (jO (16, 0, 0, 0)) (jU (jO (15, 0, 0, 0)) (jU (jO (14, 0, 0, 0)) (jU (jO (13, 0, 0, 0)) (jU (jO (12, 0, 0, 0)) I)))))) j := fun j hj => Or.inr (hup j hj)
  replace hnw : ∀ j, (jU (jO (17, 0, 0, 0)) (jU (jO (16, 0, 0, 0)) (jU (jO (15, 0, 0, 0)) (jU (jO (14, 0, 0, 0)) (jU (jO (13, 0, 0, 0)) (jU (jO (12, 0, 0, 0)) I)))))) j → ¬ I j → s.heap.size ≤ ad25 j := fun j hj hn => hj.elim (fun h => by have h : j = (17, 0, 0, 0) := h; rw [h, e25]; exact hz25) (fun h => by rw [hx25 j h]; exact hnw j h hn)
  have hI_n25 : (jU (jO (17, 0, 0, 0)) (jU (jO (16, 0, 0, 0)) (jU (jO (15, 0, 0, 0)) (jU (jO (14, 0, 0, 0)) (jU (jO (13, 0, 0, 0)) (jU (jO (12, 0, 0, 0)) I)))))) (17, 0, 0, 0) := Or.inl rfl
  have hq_n25 := e25
  have hA_n25 : iA a s.heap.size q25 := Or.inr hz25
  refine pF_194 (pc := 49) C hin hP hS hI_t hI_n25 (Or.inl rfl) hq_t hq_n25 dX1_init_49 (fun H locs hP hS => ?_)
  refine lv_aload_n (pc := 52) hx hb dX1_init_52 rfl (lv_at hl 0 rfl) ?_
  have hMr : (mr (jM (jO (16, 0, 0, 0)) (jM (jO (15, 0, 0, 0)) (jM (jO (14, 0, 0, 0)) (jM (jO (13, 0, 0, 0)) (jM (jO (12, 0, 0, 0)) M))))) (17, 0, 0, 0) (fun _ => 0)).1 (11, 0, 0, 0) = fun _ => 0 := by
    simp [jM, jO, mr, cif_false, hM0]
  have hFr : (fu (jF (jO (17, 0, 0, 0)) (fu (jF (jO (16, 0, 0, 0)) (fu (jF (jO (15, 0, 0, 0)) (fu (jF (jO (14, 0, 0, 0)) (fu (jF (jO (13, 0, 0, 0)) (fu (jF (jO (12, 0, 0, 0)) F) (11, 0, 0, 0) 1 (12, 0, 0, 0))) (11, 0, 0, 0) 2 (13, 0, 0, 0))) (11, 0, 0, 0) 3 (14, 0, 0, 0))) (11, 0, 0, 0) 4 (15, 0, 0, 0))) (11, 0, 0, 0) 5 (16, 0, 0, 0))) (11, 0, 0, 0) 6 (17, 0, 0, 0)) (11, 0, 0, 0) = f0 (11, 0, 0, 0) := by
    funext q
    simp [fu, jF, jO, cif_false, hF0, f0] <;> grind
  have hS0 : ∀ j, (jK 11 7) j → (jU (jO (17, 0, 0, 0)) (jU (jO (16, 0, 0, 0)) (jU (jO (15, 0, 0, 0)) (jU (jO (14, 0, 0, 0)) (jU (jO (13, 0, 0, 0)) (jU (jO (12, 0, 0, 0)) I)))))) j ∧ iA a s.heap.size (ad25 j) := by
    intro j hj
    obtain ⟨k, h1, h2, rfl⟩ := hj
    rcases (show k = 11 ∨ k = 12 ∨ k = 13 ∨ k = 14 ∨ k = 15 ∨ k = 16 ∨ k = 17 by omega) with rfl | rfl | rfl | rfl | rfl | rfl | rfl
    · exact ⟨hI_t, by rw [hq_t]; exact (Or.inl rfl)⟩
    · exact ⟨hI_n5, by rw [hq_n5]; exact hA_n5⟩
    · exact ⟨hI_n9, by rw [hq_n9]; exact hA_n9⟩
    · exact ⟨hI_n13, by rw [hq_n13]; exact hA_n13⟩
    · exact ⟨hI_n17, by rw [hq_n17]; exact hA_n17⟩
    · exact ⟨hI_n21, by rw [hq_n21]; exact hA_n21⟩
    · exact ⟨hI_n25, by rw [hq_n25]; exact hA_n25⟩
  have hst0 : ∀ (M1 : Mem) j, (jK 11 7) j → p2 G j (M1.1 j) M1.2 (adr ad25 ((fu (jF (jO (17, 0, 0, 0)) (fu (jF (jO (16, 0, 0, 0)) (fu (jF (jO (15, 0, 0, 0)) (fu (jF (jO (14, 0, 0, 0)) (fu (jF (jO (13, 0, 0, 0)) (fu (jF (jO (12, 0, 0, 0)) F) (11, 0, 0, 0) 1 (12, 0, 0, 0))) (11, 0, 0, 0) 2 (13, 0, 0, 0))) (11, 0, 0, 0) 3 (14, 0, 0, 0))) (11, 0, 0, 0) 4 (15, 0, 0, 0))) (11, 0, 0, 0) 5 (16, 0, 0, 0))) (11, 0, 0, 0) 6 (17, 0, 0, 0)) j)) = pic G ad25 M1 j := by
    intro M1 j hj
    obtain ⟨k, h1, h2, rfl⟩ := hj
    rcases (show k = 11 ∨ k = 12 ∨ k = 13 ∨ k = 14 ∨ k = 15 ∨ k = 16 ∨ k = 17 by omega) with rfl | rfl | rfl | rfl | rfl | rfl | rfl
    · rw [hFr]; exact p2_f0 G _ _ _ _ (by decide)
    · rfl
    · rfl
    · rfl
    · rfl
    · rfl
    · rfl
  refine r2_cV (pc := 53) (i := (11, 0, 0, 0)) (I0 := (jK 11 7)) (Qp := fun M1 => M1 = mr (mr (mr (jM (jO (16, 0, 0, 0)) (jM (jO (15, 0, 0, 0)) (jM (jO (14, 0, 0, 0)) (jM (jO (13, 0, 0, 0)) (jM (jO (12, 0, 0, 0)) M))))) (17, 0, 0, 0) (fun _ => 0)) (11, 0, 0, 0) (m0 (11, 0, 0, 0))) (17, 0, 0, 0) (m0 (17, 0, 0, 0))) C hl.1 hP hS (k_X1_clear l G clo_11 ⟨11, by decide, by decide, rfl⟩ (w1_clear0 hMr (by simp [jM, jO, mr, cif_true, cif_false, m0]))) hS0 hst0 (fun M1 e => by subst e; exact ⟨fun j hj h => by rw [mr_ne _ _ (fun q => h (by rw [q]; exact ⟨17, by decide, by decide, rfl⟩)), mr_ne _ _ (fun q => h (by rw [q]; exact ⟨11, by decide, by decide, rfl⟩))], rfl⟩) hq_t ⟨11, by decide, by decide, rfl⟩ rfl rfl mw_167 mw_168 mw_169 mw_60 mw_170 ⟨rfl, rfl⟩ hd_X1_clear rfl rfl ⟨Nat.le_of_ble_eq_true rfl, Nat.le_of_ble_eq_true rfl⟩ (Nat.le_of_ble_eq_true rfl) ⟨Nat.le_of_ble_eq_true rfl, Nat.le_of_ble_eq_true rfl⟩ dX1_init_53 (fun M9 H locs hw9 hP hS => ?_)
  have hIf : ∀ j, jU (jK 11 7) I j ↔ (jU (jO (17, 0, 0, 0)) (jU (jO (16, 0, 0, 0)) (jU (jO (15, 0, 0, 0)) (jU (jO (14, 0, 0, 0)) (jU (jO (13, 0, 0, 0)) (jU (jO (12, 0, 0, 0)) I)))))) j := by
    intro j
    constructor
    · rintro (hj | hj)
      · skip
        obtain ⟨k, h1, h2, rfl⟩ := hj
        rcases (show k = 11 ∨ k = 12 ∨ k = 13 ∨ k = 14 ∨ k = 15 ∨ k = 16 ∨ k = 17 by omega) with rfl | rfl | rfl | rfl | rfl | rfl | rfl
        · exact hup _ hroot
        · exact (Or.inr (Or.inr (Or.inr (Or.inr (Or.inr (Or.inl rfl))))))
        · exact (Or.inr (Or.inr (Or.inr (Or.inr (Or.inl rfl)))))
        · exact (Or.inr (Or.inr (Or.inr (Or.inl rfl))))
        · exact (Or.inr (Or.inr (Or.inl rfl)))
        · exact (Or.inr (Or.inl rfl))
        · exact (Or.inl rfl)
      · exact hup j hj
    · rintro (hj | hj | hj | hj | hj | hj | hj)
      · exact Or.inl (by simp only [jK, jO] at hj ⊢; grind)
      · exact Or.inl (by simp only [jK, jO] at hj ⊢; grind)
      · exact Or.inl (by simp only [jK, jO] at hj ⊢; grind)
      · exact Or.inl (by simp only [jK, jO] at hj ⊢; grind)
      · exact Or.inl (by simp only [jK, jO] at hj ⊢; grind)
      · exact Or.inl (by simp only [jK, jO] at hj ⊢; grind)
      · exact Or.inr hj
  have hMf : ∀ j, (jK 11 7) j → M9.1 j = m0 j := by
    intro j hj
    subst hw9
    obtain ⟨k, h1, h2, rfl⟩ := hj
    rcases (show k = 11 ∨ k = 12 ∨ k = 13 ∨ k = 14 ∨ k = 15 ∨ k = 16 ∨ k = 17 by omega) with rfl | rfl | rfl | rfl | rfl | rfl | rfl
    · first | rw [mr_at] | (rw [mr_ne _ _ (by simp), mr_at]) | (rw [mr_ne _ _ (by simp), mr_ne _ _ (by simp)]; simp [jM, jO, mr, cif_true, cif_false, m0])
    · first | rw [mr_at] | (rw [mr_ne _ _ (by simp), mr_at]) | (rw [mr_ne _ _ (by simp), mr_ne _ _ (by simp)]; simp [jM, jO, mr, cif_true, cif_false, m0])
    · first | rw [mr_at] | (rw [mr_ne _ _ (by simp), mr_at]) | (rw [mr_ne _ _ (by simp), mr_ne _ _ (by simp)]; simp [jM, jO, mr, cif_true, cif_false, m0])
    · first | rw [mr_at] | (rw [mr_ne _ _ (by simp), mr_at]) | (rw [mr_ne _ _ (by simp), mr_ne _ _ (by simp)]; simp [jM, jO, mr, cif_true, cif_false, m0])
    · first | rw [mr_at] | (rw [mr_ne _ _ (by simp), mr_at]) | (rw [mr_ne _ _ (by simp), mr_ne _ _ (by simp)]; simp [jM, jO, mr, cif_true, cif_false, m0])
    · first | rw [mr_at] | (rw [mr_ne _ _ (by simp), mr_at]) | (rw [mr_ne _ _ (by simp), mr_ne _ _ (by simp)]; simp [jM, jO, mr, cif_true, cif_false, m0])
    · first | rw [mr_at] | (rw [mr_ne _ _ (by simp), mr_at]) | (rw [mr_ne _ _ (by simp), mr_ne _ _ (by simp)]; simp [jM, jO, mr, cif_true, cif_false, m0])
  have hMo : ∀ j, I j → ¬ (jK 11 7) j → M9.1 j = M.1 j := by
    intro j hj hn
    subst hw9
    rw [mr_ne _ _ (fun e => hn (by rw [e]; simp [jK]))]
    rw [mr_ne _ _ (fun e => hn (by rw [e]; simp [jK]))]
    rw [mr_ne _ _ (fun e => hn (by rw [e]; simp [jK]))]
    rw [jM_ne (fun h => hn (by simp only [jK, jO] at h ⊢; grind))]
    rw [jM_ne (fun h => hn (by simp only [jK, jO] at h ⊢; grind))]
    rw [jM_ne (fun h => hn (by simp only [jK, jO] at h ⊢; grind))]
    rw [jM_ne (fun h => hn (by simp only [jK, jO] at h ⊢; grind))]
    rw [jM_ne (fun h => hn (by simp only [jK, jO] at h ⊢; grind))]
  have hWf : M9.2 = M.2 := by subst hw9; rfl
  have hFf : ∀ j, (jK 11 7) j → (fu (jF (jO (17, 0, 0, 0)) (fu (jF (jO (16, 0, 0, 0)) (fu (jF (jO (15, 0, 0, 0)) (fu (jF (jO (14, 0, 0, 0)) (fu (jF (jO (13, 0, 0, 0)) (fu (jF (jO (12, 0, 0, 0)) F) (11, 0, 0, 0) 1 (12, 0, 0, 0))) (11, 0, 0, 0) 2 (13, 0, 0, 0))) (11, 0, 0, 0) 3 (14, 0, 0, 0))) (11, 0, 0, 0) 4 (15, 0, 0, 0))) (11, 0, 0, 0) 5 (16, 0, 0, 0))) (11, 0, 0, 0) 6 (17, 0, 0, 0)) j = f0 j := by
    intro j hj
    obtain ⟨k, h1, h2, rfl⟩ := hj
    rcases (show k = 11 ∨ k = 12 ∨ k = 13 ∨ k = 14 ∨ k = 15 ∨ k = 16 ∨ k = 17 by omega) with rfl | rfl | rfl | rfl | rfl | rfl | rfl
    · funext q; simp [fu, nF, jF, jO, jS, jB, jC, jT, jK, cif_true, cif_false, f0, hF0] <;> grind
    · exact (fu_in (by simp) (jF_in (Or.inr (fu_in (by simp) (jF_in (Or.inr (fu_in (by simp) (jF_in (Or.inr (fu_in (by simp) (jF_in (Or.inr (fu_in (by simp) (jF_in (Or.inr (fu_in (by simp) (jF_in (Or.inl rfl))))))))))))))))))
    · exact (fu_in (by simp) (jF_in (Or.inr (fu_in (by simp) (jF_in (Or.inr (fu_in (by simp) (jF_in (Or.inr (fu_in (by simp) (jF_in (Or.inr (fu_in (by simp) (jF_in (Or.inl rfl)))))))))))))))
    · exact (fu_in (by simp) (jF_in (Or.inr (fu_in (by simp) (jF_in (Or.inr (fu_in (by simp) (jF_in (Or.inr (fu_in (by simp) (jF_in (Or.inl rfl))))))))))))
    · exact (fu_in (by simp) (jF_in (Or.inr (fu_in (by simp) (jF_in (Or.inr (fu_in (by simp) (jF_in (Or.inl rfl)))))))))
    · exact (fu_in (by simp) (jF_in (Or.inr (fu_in (by simp) (jF_in (Or.inl rfl))))))
    · exact (fu_in (by simp) (jF_in (Or.inl rfl)))
  have hFo : ∀ j, I j → ¬ (jK 11 7) j → (fu (jF (jO (17, 0, 0, 0)) (fu (jF (jO (16, 0, 0, 0)) (fu (jF (jO (15, 0, 0, 0)) (fu (jF (jO (14, 0, 0, 0)) (fu (jF (jO (13, 0, 0, 0)) (fu (jF (jO (12, 0, 0, 0)) F) (11, 0, 0, 0) 1 (12, 0, 0, 0))) (11, 0, 0, 0) 2 (13, 0, 0, 0))) (11, 0, 0, 0) 3 (14, 0, 0, 0))) (11, 0, 0, 0) 4 (15, 0, 0, 0))) (11, 0, 0, 0) 5 (16, 0, 0, 0))) (11, 0, 0, 0) 6 (17, 0, 0, 0)) j = F j := by
    intro j hj hn
    rw [fu_ne (fun e => hn (by rw [e]; simp [jK]))]
    rw [jF_ne (fun h => hn (by simp only [jK, jO] at h ⊢; grind))]
    rw [fu_ne (fun e => hn (by rw [e]; simp [jK]))]
    rw [jF_ne (fun h => hn (by simp only [jK, jO] at h ⊢; grind))]
    rw [fu_ne (fun e => hn (by rw [e]; simp [jK]))]
    rw [jF_ne (fun h => hn (by simp only [jK, jO] at h ⊢; grind))]
    rw [fu_ne (fun e => hn (by rw [e]; simp [jK]))]
    rw [jF_ne (fun h => hn (by simp only [jK, jO] at h ⊢; grind))]
    rw [fu_ne (fun e => hn (by rw [e]; simp [jK]))]
    rw [jF_ne (fun h => hn (by simp only [jK, jO] at h ⊢; grind))]
    rw [fu_ne (fun e => hn (by rw [e]; simp [jK]))]
    rw [jF_ne (fun h => hn (by simp only [jK, jO] at h ⊢; grind))]
  exact r2_ret (pc := 56) C (w2.fin (i := (11, 0, 0, 0)) (M := M) hP hIf hfr hMf hMo hWf hFf hFo) hxt (fun j hj hn => hnw j ((hIf j).mp hj) hn) hS (Nat.le_of_ble_eq_true rfl) (Nat.le_of_ble_eq_true rfl) dX1_init_56
