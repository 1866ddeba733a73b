/-- the numbers at the start -/
def init0 (M : Mem) : Prop := ∀ i, (jX i ∨ jK 29 18 i) → M.1 i = m0 i
theorem arrT_of {args : Array Value} {s : State} {t : FieldType} (h : (Cond.arrayClass t).before args s = true) (ho : ∀ C, t ≠ .object C) : ∃ c : ClassId, ArrOfT s c t ∧ va_RA s c t := by
  obtain ⟨c, k, comp, h1, h2, h3⟩ := Cond.arrayClass_spec h
  refine ⟨c, fun N z => ⟨(fun q hq => by cases hq), k, h2, comp, h3⟩, ?_⟩
  cases t <;> first | exact h1 | exact absurd rfl (ho _)
theorem arrO_of {args : Array Value} {s : State} {C : String} (h : (Cond.arrayOver (.object C)).before args s = true) : ∃ c : ClassId, ArrOfT s c (.object C) ∧ va_RA s c (.object C) := by
  obtain ⟨comp, c, k, h1, h2, h3, h4, h5⟩ := Cond.arrayOver_spec h
  exact ⟨c, fun N z => ⟨(fun q hq => by cases hq), k, h3, comp, h4⟩, k, comp, h3, h4, h1, h5⟩
theorem arrA_of {args : Array Value} {s : State} (h : (Cond.arrayOver (.array .int)).before args s = true) : ∃ c : ClassId, ArrOfT s c (.array .int) ∧ va_RA s c (.array .int) := by
  obtain ⟨comp, c, k, h1, h3, h4, h5⟩ := Cond.arrayOver_specA h
  exact ⟨c, fun N z => ⟨(fun q hq => by cases hq), k, h3, comp, h4⟩, h5⟩
set_option maxHeartbeats 4000000 in
set_option maxRecDepth 100000 in
/-- what the tables say, as the world wants it -/
theorem law_K {s : State} {b : Nat} (hts : ∀ w ∈ lw_tbl, w.before #[Value.ref b] s = true) : ∃ G : GG, wK G s ∧ aK s := by
  have hwg : ∀ w ∈ WG, w.before #[Value.ref b] s = true := fun w hw => hts w (wg_tbl hw)
  obtain ⟨c0, iS0, hKn0⟩ := u_known (C := RX0) (T := TX0) (N := 4) (n := 4) hwg inX0 (hwg _ mw_84)
  obtain ⟨c1, iS1, hKn1⟩ := u_known (C := RX1) (T := TX1) (N := 9) (n := 9) hwg inX1 (hwg _ mw_162)
  obtain ⟨c2, iS2, hKn2⟩ := u_known (C := RX2) (T := TX2) (N := 4) (n := 4) hwg inX2 (hwg _ mw_230)
  obtain ⟨c3, iS3, hKn3⟩ := u_known (C := RX3) (T := TX3) (N := 2) (n := 2) hwg inX3 (hwg _ mw_217)
  obtain ⟨c4, iS4, hKn4⟩ := u_known (C := RX4) (T := TX4) (N := 2) (n := 2) hwg inX4 (hwg _ mw_252)
  obtain ⟨c5, iS5, hKn5⟩ := u_known (C := RX5) (T := TX5) (N := 1) (n := 1) hwg inX5 (hwg _ mw_77)
  obtain ⟨c6, iS6, hKn6⟩ := u_known (C := RX6) (T := TX6) (N := 7) (n := 7) hwg inX6 (hwg _ mw_93)
  obtain ⟨c7, iS7, hKn7⟩ := u_known (C := RX7) (T := TX7) (N := 4) (n := 4) hwg inX7 (hwg _ mw_267)
  obtain ⟨c8, iS8, hKn8⟩ := u_known (C := RX8) (T := TX8) (N := 9) (n := 9) hwg inX8 (hwg _ mw_69)
  obtain ⟨c9, iS9, hKn9⟩ := u_known (C := RX9) (T := TX9) (N := 18) (n := 18) hwg inX9 (hwg _ mw_706)
  obtain ⟨y0, z0⟩ := arrT_of (hwg _ mw_135) (fun C h => by cases h)
  obtain ⟨y1, z1⟩ := arrT_of (hwg _ mw_265) (fun C h => by cases h)
  obtain ⟨y2, z2⟩ := arrT_of (hwg _ mw_771) (fun C h => by cases h)
  have o3 : (Cond.arrayOver (.object RX0)).before #[Value.ref b] s = true := hts _ (List.mem_append_right _ (List.mem_append_left _ (List.mem_of_getElem? (i := 28) rfl)))
  have o4 : (Cond.arrayOver (.object RX5)).before #[Value.ref b] s = true := hts _ (List.mem_append_right _ (List.mem_append_left _ (List.mem_of_getElem? (i := 105) rfl)))
  have o5 : (Cond.arrayOver (.object RX6)).before #[Value.ref b] s = true := hts _ (List.mem_append_right _ (List.mem_append_left _ (List.mem_of_getElem? (i := 37) rfl)))
  have o6 : (Cond.arrayOver (.array .int)).before #[Value.ref b] s = true := hts _ (List.mem_append_right _ (List.mem_append_left _ (List.mem_of_getElem? (i := 35) rfl)))
  obtain ⟨y3, z3⟩ := arrO_of o3
  obtain ⟨y4, z4⟩ := arrO_of o4
  obtain ⟨y5, z5⟩ := arrO_of o5
  obtain ⟨y6, z6⟩ := arrA_of o6
  refine ⟨((fun k => if k = 0 then c0 else if k = 1 then c1 else if k = 2 then c2 else if k = 3 then c3 else if k = 4 then c4 else if k = 5 then c5 else if k = 6 then c6 else if k = 7 then c7 else if k = 8 then c8 else c9, fun k => if k = 0 then iS0 else if k = 1 then iS1 else if k = 2 then iS2 else if k = 3 then iS3 else if k = 4 then iS4 else if k = 5 then iS5 else if k = 6 then iS6 else if k = 7 then iS7 else if k = 8 then iS8 else iS9), fun k => if k = 0 then y0 else if k = 1 then y1 else if k = 2 then y2 else if k = 3 then y3 else if k = 4 then y4 else if k = 5 then y5 else y6), ⟨⟨?_, ?_⟩, ?_⟩, va_AO.of o3, va_AO.of o4, va_AO.of o5, o6⟩
  · intro k q hq
    match k, hq with
    | 0, hq => cases hq; exact hKn0
    | 1, hq => cases hq; exact hKn1
    | 2, hq => cases hq; exact hKn2
    | 3, hq => cases hq; exact hKn3
    | 4, hq => cases hq; exact hKn4
    | 5, hq => cases hq; exact hKn5
    | 6, hq => cases hq; exact hKn6
    | 7, hq => cases hq; exact hKn7
    | 8, hq => cases hq; exact hKn8
    | 9, hq => cases hq; exact hKn9
    | k + 10, hq => simp [vwCl] at hq
  · intro k q hq
    match k, hq with
    | 0, hq => cases hq; exact z0
    | 1, hq => cases hq; exact z1
    | 2, hq => cases hq; exact z2
    | 3, hq => cases hq; exact z3
    | 4, hq => cases hq; exact z4
    | 5, hq => cases hq; exact z5
    | 6, hq => cases hq; exact z6
    | k + 7, hq => simp at hq
  · intro q hq
    simp only [nestL, List.mem_cons, List.not_mem_nil, or_false] at hq
    rcases hq with rfl | rfl | rfl | rfl | rfl | rfl | rfl | rfl | rfl | rfl | rfl | rfl | rfl | rfl | rfl | rfl | rfl | rfl | rfl | rfl | rfl | rfl
    · exact va_Nw.of rfl (hts _ (List.mem_append_right _ (List.mem_append_right _ (List.mem_append_left _ (List.mem_of_getElem? (i := 143) rfl)))))
    · exact va_Nw.of rfl (hts _ (List.mem_append_right _ (List.mem_append_right _ (List.mem_append_left _ (List.mem_of_getElem? (i := 146) rfl)))))
    · exact va_Nw.of rfl (hts _ (List.mem_append_right _ (List.mem_append_right _ (List.mem_append_left _ (List.mem_of_getElem? (i := 157) rfl)))))
    · exact va_Nw.of rfl (hts _ (List.mem_append_right _ (List.mem_append_right _ (List.mem_append_left _ (List.mem_of_getElem? (i := 168) rfl)))))
    · exact va_Nw.of rfl (hts _ (List.mem_append_right _ (List.mem_append_right _ (List.mem_append_left _ (List.mem_of_getElem? (i := 200) rfl)))))
    · exact va_Nw.of rfl (hts _ (List.mem_append_right _ (List.mem_append_right _ (List.mem_append_left _ (List.mem_of_getElem? (i := 201) rfl)))))
    · exact va_Nw.of rfl (hts _ (List.mem_append_right _ (List.mem_append_right _ (List.mem_append_left _ (List.mem_of_getElem? (i := 204) rfl)))))
    · exact va_Nw.of rfl (hts _ (List.mem_append_right _ (List.mem_append_right _ (List.mem_append_left _ (List.mem_of_getElem? (i := 207) rfl)))))
    · exact va_Nw.of rfl (hts _ (List.mem_append_right _ (List.mem_append_right _ (List.mem_append_left _ (List.mem_of_getElem? (i := 215) rfl)))))
    · exact va_Nw.of rfl (hts _ (List.mem_append_right _ (List.mem_append_right _ (List.mem_append_left _ (List.mem_of_getElem? (i := 216) rfl)))))
    · exact va_Nw.of rfl (hts _ (List.mem_append_right _ (List.mem_append_right _ (List.mem_append_left _ (List.mem_of_getElem? (i := 217) rfl)))))
    · exact va_Nw.of rfl (hts _ (List.mem_append_right _ (List.mem_append_right _ (List.mem_append_right _ (List.mem_append_left _ (List.mem_of_getElem? (i := 2) rfl))))))
    · exact va_Nw.of rfl (hts _ (List.mem_append_right _ (List.mem_append_right _ (List.mem_append_right _ (List.mem_append_left _ (List.mem_of_getElem? (i := 6) rfl))))))
    · exact va_Nw.of rfl (hts _ (List.mem_append_right _ (List.mem_append_right _ (List.mem_append_right _ (List.mem_append_left _ (List.mem_of_getElem? (i := 14) rfl))))))
    · exact va_Nw.of rfl (hts _ (List.mem_append_right _ (List.mem_append_right _ (List.mem_append_right _ (List.mem_append_left _ (List.mem_of_getElem? (i := 17) rfl))))))
    · exact va_Nw.of rfl (hts _ (List.mem_append_right _ (List.mem_append_right _ (List.mem_append_right _ (List.mem_append_left _ (List.mem_of_getElem? (i := 21) rfl))))))
    · exact va_Nw.of rfl (hts _ (List.mem_append_right _ (List.mem_append_right _ (List.mem_append_right _ (List.mem_append_left _ (List.mem_of_getElem? (i := 22) rfl))))))
    · exact va_Nw.of rfl (hts _ (List.mem_append_right _ (List.mem_append_right _ (List.mem_append_right _ (List.mem_append_left _ (List.mem_of_getElem? (i := 27) rfl))))))
    · exact va_Nw.of rfl (hts _ (List.mem_append_right _ (List.mem_append_right _ (List.mem_append_right _ (List.mem_append_left _ (List.mem_of_getElem? (i := 28) rfl))))))
    · exact va_Nw.of rfl (hts _ (List.mem_append_right _ (List.mem_append_right _ (List.mem_append_right _ (List.mem_append_left _ (List.mem_of_getElem? (i := 29) rfl))))))
    · exact va_Nw.of rfl (hts _ (List.mem_append_right _ (List.mem_append_right _ (List.mem_append_right _ (List.mem_append_left _ (List.mem_of_getElem? (i := 53) rfl))))))
    · exact va_Nw.of rfl (hts _ (List.mem_append_right _ (List.mem_append_right _ (List.mem_append_right _ (List.mem_append_left _ (List.mem_of_getElem? (i := 107) rfl))))))
set_option maxHeartbeats 4000000 in
set_option maxRecDepth 100000 in
/-- THE LAW, from its entry, over what is pure -/
theorem start_open {p : Program} {e : Env} {s : State} {m : MethodId} {below : List Frame} {meth : Method} {c : Code} (l : Launch) {b L : Nat} {xs : Nat → Int32} (C0 : lw_At p s m meth c b L xs) (hpure : ∀ M, init0 M → w_law xs L 513 0 M) : W p l e room_1 s m #[Value.ref b] below meth c s.heap [] 0 0 (lw_Z below #[Value.ref b] s) (entryFrame m ([Value.ref b] : List Value).toArray 4) := by
  obtain ⟨hx, hb, hr, hml, hown, hts, hX, hbl, hlocks, hgv⟩ := id C0
  obtain ⟨G, hK, haK⟩ := law_K hts
  have C : cx p s m #[Value.ref b] meth c code 4 ret RL G := ⟨hx, hb, hml, hown, fun w hw => hts w (wg_tbl hw), hr, hlocks, hK⟩
  have hA : ∀ q : Nat, s.heap.size ≤ q → (fun q : Nat => s.heap.size ≤ q) q := fun _ h => h
  have hl := lv_entry ([.ref b]) (n := 4) (Nat.le_of_ble_eq_true rfl)
  rw [lg_entry_eq]
  generalize (lg_sl ([.ref b]) ++ List.replicate (4 - (lg_sl ([.ref b])).length) Slot.unset).toArray = ls at hl ⊢
  have hl : lv_has ls 4 [(0, .ref b)] := hl
  obtain ⟨M0, hM0⟩ : ∃ M0 : Mem, M0 = (fun _ _ => 0, fun _ => 0) := ⟨_, rfl⟩
  have hP : w2 G (fun _ => False) (fun _ => 0) M0 (fun _ _ => none) s.heap := ⟨fun _ h => h.elim, fun _ _ h => h.elim, fun _ h => h.elim⟩
  have hS : va_S (fun q : Nat => s.heap.size ≤ q) s.heap s.heap [] := va_S.rf
  refine nw_L_7 (pc := 0) (A := fun q : Nat => s.heap.size ≤ q) C hP hS (fun h => h) (Nat.le_of_ble_eq_true rfl) (Nat.le_of_ble_eq_true rfl) dL_law_0 (fun q1 ad1 H e1 hx1 hz1 hP hS => ?_)
  refine lv_dup (pc := 3) hx hb dL_law_3 rfl ?_
  refine r2_cI (pc := 4) (rest := [.ref q1]) (As := []) C haK hl.1 hP hS hA hz1 (kI_X8 l G e1 (Or.inl rfl) (mr_at _ _ _) (if_pos rfl) (fun i hi hJ => hi.elim id (fun h => h.elim)) (fun j hj => hj.elim (fun e => by rw [e]; decide) (fun h => h.elim))) mw_70 mw_71 mw_56 mw_72 ⟨rfl, rfl⟩ rfl hd_X8_init rfl rfl ⟨Nat.le_of_ble_eq_true rfl, Nat.le_of_ble_eq_true rfl⟩ (Nat.le_of_ble_eq_true rfl) ⟨Nat.le_of_ble_eq_true rfl, Nat.le_of_ble_eq_true rfl⟩ dL_law_4 (fun ad2 H locs hx2 hnn2 hP hS => ?_)
  have hq1 : ad2 (0, 0, 0, 0) = q1 := (hx2 _ (Or.inl rfl)).trans e1
  replace hP : w2 G (jU jX (fun _ => False)) ad2 (jM jX (M0.1, fun _ => 0)) (jF jX (fun _ _ => none)) H := w2.root (M := (M0.1, fun _ => 0)) hP (Or.inl rfl)
  have hge2 : ∀ j, jU jX (fun _ => False) j → s.heap.size ≤ ad2 j := by
    intro j hj
    by_cases e9 : iI (fun _ => False) (0, 0, 0, 0) j
    · rw [hx2 j e9]
      rcases e9 with e9 | e9
      · rw [e9, e1]; exact hz1
      · exact e9.elim
    · exact hnn2 j (hj.elim Or.inl (fun h => h.elim)) e9
  refine lv_astore_n (pc := 7) (lv' := [(1, .ref q1), (0, .ref b)]) hx hb dL_law_7 rfl hl (by decide) rfl (fun ls hl => ?_)
  have hf9 : ∀ i, jU jX (fun _ => False) i → ¬ jK 29 18 i := by
    rintro i ((h | h | h | h | h | h | h | h | h | h) | h) hJ
    · have h1 := jK_r hJ; rw [h] at h1; dsimp only at h1; omega
    · have h1 := jK_r hJ; have h2 := jT_r h; omega
    · have h1 := jK_r hJ; rw [h] at h1; dsimp only at h1; omega
    · have h1 := jK_r hJ; have h2 := jK_r h; omega
    · have h1 := jK_r hJ; have h2 := jK_r h; omega
    · have h1 := jK_r hJ; have h2 := jK_r h; omega
    · have h1 := jK_r hJ; rw [h] at h1; dsimp only at h1; omega
    · have h1 := jK_r hJ; rw [h] at h1; dsimp only at h1; omega
    · have h1 := jK_r hJ; have h2 := jK_r h; omega
    · have h1 := jK_r hJ; have h2 := jK_r h; omega
    · exact h.elim
  refine nw_L_10 (pc := 8) (A := fun q : Nat => s.heap.size ≤ q) C hP hS (fun h => hf9 _ h ⟨29, by decide, by decide, rfl⟩) (Nat.le_of_ble_eq_true rfl) (Nat.le_of_ble_eq_true rfl) dL_law_8 (fun q3 ad3 H e3 hx3 hz3 hP hS => ?_)
  refine lv_dup (pc := 11) hx hb dL_law_11 rfl ?_
  refine r2_cI (pc := 12) (rest := [.ref q3]) (As := []) C haK hl.1 hP hS hA hz3 (kI_X9 l G e3 (Or.inl rfl) (mr_at _ _ _) (if_pos rfl) (fun i hi hJ => hi.elim id (fun h => absurd hJ (hf9 i h)))) mw_707 mw_708 mw_65 mw_709 ⟨rfl, rfl⟩ rfl hd_X9_init rfl rfl ⟨Nat.le_of_ble_eq_true rfl, Nat.le_of_ble_eq_true rfl⟩ (Nat.le_of_ble_eq_true rfl) ⟨Nat.le_of_ble_eq_true rfl, Nat.le_of_ble_eq_true rfl⟩ dL_law_12 (fun ad4 H locs hx4 hnn4 hP hS => ?_)
  have hq3 : ad4 (29, 0, 0, 0) = q3 := (hx4 _ (Or.inl rfl)).trans e3
  have hq1b : ad4 (0, 0, 0, 0) = q1 := ((hx4 _ (Or.inr (Or.inl (Or.inl rfl)))).trans (hx3 _ (Or.inl (Or.inl rfl)))).trans hq1
  replace hP := hP.root ⟨29, by decide, by decide, rfl⟩
  refine lv_astore_n (pc := 15) (lv' := [(2, .ref q3), (1, .ref q1), (0, .ref b)]) hx hb dL_law_15 rfl hl (by decide) rfl (fun ls hl => ?_)
  refine lv_iconst (pc := 16) (v := (0 : Int32)) hx hb dL_law_16 (by decide) ?_
  refine lv_istore_n (pc := 17) (lv' := [(3, .int (0 : Int32)), (2, .ref q3), (1, .ref q1), (0, .ref b)]) hx hb dL_law_17 rfl hl (by decide) rfl (fun ls hl => ?_)
  obtain ⟨M9, hM9⟩ : ∃ M9 : Mem, M9 = jM (jK 29 18) (jM jX (M0.1, fun _ => 0)) := ⟨_, rfl⟩
  rw [← hM9] at hP
  have hin : init0 M9 := by
    intro i hi
    rw [hM9]
    rcases hi with h | h
    · exact jM_in (Or.inr (jM_in (Or.inl h)))
    · exact jM_in (Or.inl h)
  have h10 : M9.1 (10, 0, 0, 0) = fun _ => 0 := (hin _ (Or.inl (Or.inr (Or.inr (Or.inl rfl))))).trans rfl
  have hlv : ∀ i, lvs (fun _ => 0) i ↔ jU (jK 29 18) (jU jX (fun _ => False)) i := by
    intro i
    constructor
    · rintro (h | h | ⟨h0, h⟩ | ⟨h0, h⟩)
      · exact Or.inr (Or.inl h)
      · exact Or.inl h
      · exact absurd rfl h0
      · exact absurd rfl h0
    · rintro (h | h | h)
      · exact Or.inr (Or.inl h)
      · exact Or.inl h
      · exact h.elim
  have hPd : wd G (lvs (fun _ => 0)) ad4 M9 H := by
    refine wd_of_w2 (hP.congr hlv (fun _ _ => rfl) rfl (fun _ _ => rfl)) M9 (fun _ _ _ => rfl) rfl h10 (fun i hi e => ?_) (fun j hj => ?_)
    · rcases (hlv i).mp hi with h | h | h
      · exact jF_in (Or.inl h)
      · exact jF_in (Or.inr (jF_in (Or.inl h)))
      · exact h.elim
    · rw [if_pos rfl]
      have h1 : jF (jK 29 18) (jF jX (fun _ _ => none)) (10, 0, 0, 0) = f0 (10, 0, 0, 0) := jF_in (Or.inr (jF_in (Or.inl (Or.inr (Or.inr (Or.inl rfl))))))
      rw [h1]
      rfl
  have hge4 : ∀ i, lvs (M9.1 (10, 0, 0, 0)) i → s.heap.size ≤ ad4 i := by
    rw [h10]
    intro j hj
    have hj := (hlv j).mp hj
    by_cases e9 : iI (jU jX (fun _ => False)) (29, 0, 0, 0) j
    · rw [hx4 j e9]
      rcases e9 with e9 | e9
      · rw [e9, e3]; exact hz3
      · rw [hx3 j e9]; exact hge2 j e9
    · exact hnn4 j (hj.elim Or.inl (fun h => Or.inr (Or.inr h))) e9
  refine W.widen (k := 200 + 158 * 0) (n := 4000 + 745 * 0) (Nat.le_of_ble_eq_true rfl) (Nat.le_of_ble_eq_true rfl) ?_
  exact j_law C haK hX hbl 513 0 0 M9 ad4 H locs ls (by omega) (hpure M9 hin) hq1b hq3 hge4 (by rw [h10]; exact hPd) hS (lv_sub hl [3, 2, 1, 0] rfl)
