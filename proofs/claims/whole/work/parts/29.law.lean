/-! THE CLAIM OUT OF ONE WALK OF THE LAW'S BODY. Your part is whole_start (and what it stands on); all else here is the same for every law, but numbers. -/
def R_law : String := "BlockTruthsLaw"
def lw_P (b : Addr) (xs : List Int32) (args : Array Value) (s : State) : Prop := args = #[.ref b] ∧ s.IntsAt b xs ∧ xs.length ≤ 3072 ∧ (Jvm.Cond.and given_1 narrow_1).before args s = true
def lw_Q (_ : Array Value) (s : State) (o : Outcome) (t : State) : Prop := o = .returned (some (.int 1)) ∧ Framed s o t [] 760528 6820663
def lw_Z (below : List Frame) (a : Array Value) (s : State) : State → Prop := fun t => ∃ o, t.status = .running ∧ Ended t below o ∧ lw_Q a s o t
/-- the law's own end, with 1 on the stack, nothing written that was there before, its room as the claim has it -/
theorem lw_ret {p : Program} {l : Launch} {e : Env} {s : State} {m : MethodId} {below : List Frame} {meth : Method} {c : Code} {b : Nat} (hx : p.tables.exec = Jvm.exec) (hb : c.code = code) (hr : meth.sig.returnType = ret) (hlocks : meth.locks = false) {pc : Nat} {H : Heap} {ls : Array Slot} (hdg : decode code pc = .ok (.ireturn, 1)) : W p l e room_1 s m #[Value.ref b] below meth c H [] 760528 6820663 (lw_Z below #[Value.ref b] s) (F0 m pc ls [.int 1]) := by
  intro T hT X
  obtain ⟨fs, hret, hrun, hended, hW, hframe⟩ := X.leave (v := some (.int 1)) (hlocks := hlocks) (fun h => by rw [hr] at h; cases h)
  have hmeth' : T.vm.method? m = some meth := X.method'
  refine ⟨T.setFrames fs, ?_, .returned (some (.int 1)), hrun, hended, rfl, ⟨_, rfl⟩, hW, hframe⟩
  jvm_step X.here [X.here.top, hx, hb, hdg, hmeth', hr, ret, narrow_b1]
  (try refine ⟨rfl, ?_⟩); (try refine ⟨rfl, ?_⟩)
  first | (intro acts; rw [hret _ acts rfl rfl rfl]) | rw [hret _ _ rfl rfl rfl]
  exact Steps.refl _
/-- what holds at the law's entry: the machine, the code, the tables' words (any of lw_tbl by 'hts w (by decide +kernel)'), the script of L ints xs at the cell b, what the Statement gives of the start (any of its parts by flat_of_before) -/
def lw_At (p : Program) (s : State) (m : MethodId) (meth : Method) (c : Code) (b L : Nat) (xs : Nat → Int32) : Prop :=
  p.tables.exec = Jvm.exec ∧ c.code = code ∧ meth.sig.returnType = ret ∧ c.maxLocals = 4 ∧ s.vm.findClass R_law = some m.cls ∧ (∀ w ∈ lw_tbl, w.before #[Value.ref b] s = true) ∧ va_X b L xs s s.heap ∧ b < s.heap.size ∧ meth.locks = false ∧ (Jvm.Cond.and given_1 narrow_1).before #[Value.ref b] s = true
/-- the law's loop -/
def w_law (xs : Nat → Int32) (L : Nat) : Nat → Int32 → Mem → Prop
  | 0, _, _ => False
  | n + 1, x3, M => (if ((Int32.ofNat L) - (6 : Int32)) < x3 then True else (vp_in x3 L ∧ (if ((xs x3.toNatClampNeg) &&& (31 : Int32)) = (0 : Int32) then (vp_in (x3 + (1 : Int32)) L ∧ (vp_in (x3 + (2 : Int32)) L ∧ (vp_in (x3 + (3 : Int32)) L ∧ (vp_in (x3 + (4 : Int32)) L ∧ (vp_in (x3 + (5 : Int32)) L ∧ (w_X8_add (xs (x3 + (1 : Int32)).toNatClampNeg) (xs (x3 + (2 : Int32)).toNatClampNeg) (xs (x3 + (3 : Int32)).toNatClampNeg) (xs (x3 + (4 : Int32)).toNatClampNeg) (xs (x3 + (5 : Int32)).toNatClampNeg) (fun (r146 : Int32) (M146 : Mem) => (M146.1 (10, 0, 0, 0) = M.1 (10, 0, 0, 0) ∧ (vp_in (x3 + (1 : Int32)) L ∧ (vp_in (x3 + (2 : Int32)) L ∧ (vp_in (x3 + (3 : Int32)) L ∧ (vp_in (x3 + (4 : Int32)) L ∧ (vp_in (x3 + (5 : Int32)) L ∧ (w_X9_add (xs (x3 + (1 : Int32)).toNatClampNeg) (xs (x3 + (2 : Int32)).toNatClampNeg) (xs (x3 + (3 : Int32)).toNatClampNeg) (xs (x3 + (4 : Int32)).toNatClampNeg) (xs (x3 + (5 : Int32)).toNatClampNeg) (fun (r175 : Int32) (M175 : Mem) => (M175.1 (10, 0, 0, 0) = M146.1 (10, 0, 0, 0) ∧ (if r146 = r175 then (w_law xs L n (x3 + 6) M175) else False))) M146)))))))) M)))))) else (if ((xs x3.toNatClampNeg) &&& (31 : Int32)) = (1 : Int32) then (vp_in (x3 + (1 : Int32)) L ∧ (vp_in (x3 + (2 : Int32)) L ∧ (w_X8_drop (xs (x3 + (1 : Int32)).toNatClampNeg) (xs (x3 + (2 : Int32)).toNatClampNeg) (fun (r194 : Int32) (M194 : Mem) => (M194.1 (10, 0, 0, 0) = M.1 (10, 0, 0, 0) ∧ (vp_in (x3 + (1 : Int32)) L ∧ (vp_in (x3 + (2 : Int32)) L ∧ (w_X9_drop (xs (x3 + (1 : Int32)).toNatClampNeg) (xs (x3 + (2 : Int32)).toNatClampNeg) (fun (r208 : Int32) (M208 : Mem) => (M208.1 (10, 0, 0, 0) = M194.1 (10, 0, 0, 0) ∧ (if r194 = r208 then (w_law xs L n (x3 + 6) M208) else False))) M194))))) M))) else (if ((xs x3.toNatClampNeg) &&& (31 : Int32)) = (2 : Int32) then (vp_in (x3 + (1 : Int32)) L ∧ (w_X8_anew (xs (x3 + (1 : Int32)).toNatClampNeg) (fun (r222 : Int32) (M222 : Mem) => (M222.1 (10, 0, 0, 0) = M.1 (10, 0, 0, 0) ∧ (vp_in (x3 + (1 : Int32)) L ∧ (w_X9_anew (xs (x3 + (1 : Int32)).toNatClampNeg) (fun (r231 : Int32) (M231 : Mem) => (M231.1 (10, 0, 0, 0) = M222.1 (10, 0, 0, 0) ∧ (if r222 = r231 then (w_law xs L n (x3 + 6) M231) else False))) M222)))) M)) else (if ((xs x3.toNatClampNeg) &&& (31 : Int32)) = (3 : Int32) then (vp_in (x3 + (1 : Int32)) L ∧ (vp_in (x3 + (2 : Int32)) L ∧ (vp_in (x3 + (3 : Int32)) L ∧ (w_X8_cell (xs (x3 + (1 : Int32)).toNatClampNeg) (xs (x3 + (2 : Int32)).toNatClampNeg) (xs (x3 + (3 : Int32)).toNatClampNeg) (fun (r255 : Int32) (M255 : Mem) => (M255.1 (10, 0, 0, 0) = M.1 (10, 0, 0, 0) ∧ (vp_in (x3 + (1 : Int32)) L ∧ (vp_in (x3 + (2 : Int32)) L ∧ (vp_in (x3 + (3 : Int32)) L ∧ (w_X9_cell (xs (x3 + (1 : Int32)).toNatClampNeg) (xs (x3 + (2 : Int32)).toNatClampNeg) (xs (x3 + (3 : Int32)).toNatClampNeg) (fun (r274 : Int32) (M274 : Mem) => (M274.1 (10, 0, 0, 0) = M255.1 (10, 0, 0, 0) ∧ (if r255 = r274 then (w_law xs L n (x3 + 6) M274) else False))) M255)))))) M)))) else (if ((xs x3.toNatClampNeg) &&& (31 : Int32)) = (4 : Int32) then (vp_in (x3 + (1 : Int32)) L ∧ (vp_in (x3 + (2 : Int32)) L ∧ (vp_in (x3 + (3 : Int32)) L ∧ (w_X8_summary (xs (x3 + (1 : Int32)).toNatClampNeg) (xs (x3 + (2 : Int32)).toNatClampNeg) (xs (x3 + (3 : Int32)).toNatClampNeg) (fun (r298 : Int32) (M298 : Mem) => (M298.1 (10, 0, 0, 0) = M.1 (10, 0, 0, 0) ∧ (vp_in (x3 + (1 : Int32)) L ∧ (vp_in (x3 + (2 : Int32)) L ∧ (vp_in (x3 + (3 : Int32)) L ∧ (w_X9_summary (xs (x3 + (1 : Int32)).toNatClampNeg) (xs (x3 + (2 : Int32)).toNatClampNeg) (xs (x3 + (3 : Int32)).toNatClampNeg) (fun (r317 : Int32) (M317 : Mem) => (M317.1 (10, 0, 0, 0) = M298.1 (10, 0, 0, 0) ∧ (if r298 = r317 then (w_law xs L n (x3 + 6) M317) else False))) M298)))))) M)))) else (if ((xs x3.toNatClampNeg) &&& (31 : Int32)) = (5 : Int32) then (vp_in (x3 + (1 : Int32)) L ∧ (vp_in (x3 + (2 : Int32)) L ∧ (vp_in (x3 + (3 : Int32)) L ∧ (vp_in (x3 + (4 : Int32)) L ∧ (w_X8_listed (xs (x3 + (1 : Int32)).toNatClampNeg) (xs (x3 + (2 : Int32)).toNatClampNeg) (xs (x3 + (3 : Int32)).toNatClampNeg) (xs (x3 + (4 : Int32)).toNatClampNeg) (fun (r346 : Int32) (M346 : Mem) => (M346.1 (10, 0, 0, 0) = M.1 (10, 0, 0, 0) ∧ (vp_in (x3 + (1 : Int32)) L ∧ (vp_in (x3 + (2 : Int32)) L ∧ (vp_in (x3 + (3 : Int32)) L ∧ (vp_in (x3 + (4 : Int32)) L ∧ (w_X9_listed (xs (x3 + (1 : Int32)).toNatClampNeg) (xs (x3 + (2 : Int32)).toNatClampNeg) (xs (x3 + (3 : Int32)).toNatClampNeg) (xs (x3 + (4 : Int32)).toNatClampNeg) (fun (r370 : Int32) (M370 : Mem) => (M370.1 (10, 0, 0, 0) = M346.1 (10, 0, 0, 0) ∧ (if r346 = r370 then (w_law xs L n (x3 + 6) M370) else False))) M346))))))) M))))) else (if ((xs x3.toNatClampNeg) &&& (31 : Int32)) = (6 : Int32) then (vp_in (x3 + (1 : Int32)) L ∧ (w_X8_say (xs (x3 + (1 : Int32)).toNatClampNeg) (fun (r384 : Int32) (M384 : Mem) => (M384.1 (10, 0, 0, 0) = M.1 (10, 0, 0, 0) ∧ (vp_in (x3 + (1 : Int32)) L ∧ (w_X9_say (xs (x3 + (1 : Int32)).toNatClampNeg) (fun (r393 : Int32) (M393 : Mem) => (M393.1 (10, 0, 0, 0) = M384.1 (10, 0, 0, 0) ∧ (if r384 = r393 then (w_law xs L n (x3 + 6) M393) else False))) M384)))) M)) else (if ((xs x3.toNatClampNeg) &&& (31 : Int32)) = (7 : Int32) then (w_X8_wipe  (fun (r402 : Int32) (M402 : Mem) => (M402.1 (10, 0, 0, 0) = M.1 (10, 0, 0, 0) ∧ (w_X9_wipe  (fun (r406 : Int32) (M406 : Mem) => (M406.1 (10, 0, 0, 0) = M402.1 (10, 0, 0, 0) ∧ (if r402 = r406 then (w_law xs L n (x3 + 6) M406) else False))) M402))) M) else (if ((xs x3.toNatClampNeg) &&& (31 : Int32)) = (8 : Int32) then (w_X8_fault  (fun (r415 : Int32) (M415 : Mem) => (M415.1 (10, 0, 0, 0) = M.1 (10, 0, 0, 0) ∧ (w_X9_fault  (fun (r419 : Int32) (M419 : Mem) => (M419.1 (10, 0, 0, 0) = M415.1 (10, 0, 0, 0) ∧ (if r415 = r419 then (w_law xs L n (x3 + 6) M419) else False))) M415))) M) else (if ((xs x3.toNatClampNeg) &&& (31 : Int32)) = (9 : Int32) then (vp_in (x3 + (1 : Int32)) L ∧ (vp_in (x3 + (2 : Int32)) L ∧ (w_X8_truth (xs (x3 + (1 : Int32)).toNatClampNeg) (xs (x3 + (2 : Int32)).toNatClampNeg) (fun (r438 : Int32) (M438 : Mem) => (M438.1 (10, 0, 0, 0) = M.1 (10, 0, 0, 0) ∧ (vp_in (x3 + (1 : Int32)) L ∧ (vp_in (x3 + (2 : Int32)) L ∧ (w_X9_truth (xs (x3 + (1 : Int32)).toNatClampNeg) (xs (x3 + (2 : Int32)).toNatClampNeg) (fun (r452 : Int32) (M452 : Mem) => (M452.1 (10, 0, 0, 0) = M438.1 (10, 0, 0, 0) ∧ (if r438 = r452 then (w_law xs L n (x3 + 6) M452) else False))) M438))))) M))) else (if ((xs x3.toNatClampNeg) &&& (31 : Int32)) = (10 : Int32) then (vp_in (x3 + (1 : Int32)) L ∧ (vp_in (x3 + (2 : Int32)) L ∧ (vp_in (x3 + (3 : Int32)) L ∧ (w_X8_range (xs (x3 + (1 : Int32)).toNatClampNeg) (xs (x3 + (2 : Int32)).toNatClampNeg) (xs (x3 + (3 : Int32)).toNatClampNeg) (fun (r476 : Int32) (M476 : Mem) => (M476.1 (10, 0, 0, 0) = M.1 (10, 0, 0, 0) ∧ (vp_in (x3 + (1 : Int32)) L ∧ (vp_in (x3 + (2 : Int32)) L ∧ (vp_in (x3 + (3 : Int32)) L ∧ (w_X9_range (xs (x3 + (1 : Int32)).toNatClampNeg) (xs (x3 + (2 : Int32)).toNatClampNeg) (xs (x3 + (3 : Int32)).toNatClampNeg) (fun (r495 : Int32) (M495 : Mem) => (M495.1 (10, 0, 0, 0) = M476.1 (10, 0, 0, 0) ∧ (if r476 = r495 then (w_law xs L n (x3 + 6) M495) else False))) M476)))))) M)))) else (if ((xs x3.toNatClampNeg) &&& (31 : Int32)) = (11 : Int32) then (vp_in (x3 + (1 : Int32)) L ∧ (vp_in (x3 + (2 : Int32)) L ∧ (w_X8_may (xs (x3 + (1 : Int32)).toNatClampNeg) (xs (x3 + (2 : Int32)).toNatClampNeg) (fun (r514 : Int32) (M514 : Mem) => (M514.1 (10, 0, 0, 0) = M.1 (10, 0, 0, 0) ∧ (vp_in (x3 + (1 : Int32)) L ∧ (vp_in (x3 + (2 : Int32)) L ∧ (w_X9_may (xs (x3 + (1 : Int32)).toNatClampNeg) (xs (x3 + (2 : Int32)).toNatClampNeg) (fun (r528 : Int32) (M528 : Mem) => (M528.1 (10, 0, 0, 0) = M514.1 (10, 0, 0, 0) ∧ (if r514 = r528 then (w_law xs L n (x3 + 6) M528) else False))) M514))))) M))) else (if ((xs x3.toNatClampNeg) &&& (31 : Int32)) = (12 : Int32) then (vp_in (x3 + (1 : Int32)) L ∧ (vp_in (x3 + (2 : Int32)) L ∧ (w_X8_verdict (xs (x3 + (1 : Int32)).toNatClampNeg) (xs (x3 + (2 : Int32)).toNatClampNeg) (fun (r547 : Int32) (M547 : Mem) => (M547.1 (10, 0, 0, 0) = M.1 (10, 0, 0, 0) ∧ (vp_in (x3 + (1 : Int32)) L ∧ (vp_in (x3 + (2 : Int32)) L ∧ (w_X9_verdict (xs (x3 + (1 : Int32)).toNatClampNeg) (xs (x3 + (2 : Int32)).toNatClampNeg) (fun (r561 : Int32) (M561 : Mem) => (M561.1 (10, 0, 0, 0) = M547.1 (10, 0, 0, 0) ∧ (if r547 = r561 then (w_law xs L n (x3 + 6) M561) else False))) M547))))) M))) else (if ((xs x3.toNatClampNeg) &&& (31 : Int32)) = (13 : Int32) then (vp_in (x3 + (1 : Int32)) L ∧ (w_X8_answer (xs (x3 + (1 : Int32)).toNatClampNeg) (fun (r575 : Int32) (M575 : Mem) => (M575.1 (10, 0, 0, 0) = M.1 (10, 0, 0, 0) ∧ (vp_in (x3 + (1 : Int32)) L ∧ (w_X9_answer (xs (x3 + (1 : Int32)).toNatClampNeg) (fun (r584 : Int32) (M584 : Mem) => (M584.1 (10, 0, 0, 0) = M575.1 (10, 0, 0, 0) ∧ (if r575 = r584 then (w_law xs L n (x3 + 6) M584) else False))) M575)))) M)) else (if ((xs x3.toNatClampNeg) &&& (31 : Int32)) = (14 : Int32) then (vp_in (x3 + (1 : Int32)) L ∧ (vp_in (x3 + (2 : Int32)) L ∧ (w_X8_total (xs (x3 + (1 : Int32)).toNatClampNeg) (xs (x3 + (2 : Int32)).toNatClampNeg) (fun (r603 : Int32) (M603 : Mem) => (M603.1 (10, 0, 0, 0) = M.1 (10, 0, 0, 0) ∧ (vp_in (x3 + (1 : Int32)) L ∧ (vp_in (x3 + (2 : Int32)) L ∧ (w_X9_total (xs (x3 + (1 : Int32)).toNatClampNeg) (xs (x3 + (2 : Int32)).toNatClampNeg) (fun (r617 : Int32) (M617 : Mem) => (M617.1 (10, 0, 0, 0) = M603.1 (10, 0, 0, 0) ∧ (if r603 = r617 then (w_law xs L n (x3 + 6) M617) else False))) M603))))) M))) else (if ((xs x3.toNatClampNeg) &&& (31 : Int32)) = (15 : Int32) then (vp_in (x3 + (1 : Int32)) L ∧ (w_X8_image (xs (x3 + (1 : Int32)).toNatClampNeg) (fun (r631 : Int32) (M631 : Mem) => (vp_in (x3 + (1 : Int32)) L ∧ (w_X9_image (xs (x3 + (1 : Int32)).toNatClampNeg) (fun (r640 : Int32) (M640 : Mem) => (M640.1 (10, 0, 0, 0) = M631.1 (10, 0, 0, 0) ∧ (if r631 = r640 then (w_law xs L n (x3 + 6) M640) else False))) M631))) M)) else (if ((xs x3.toNatClampNeg) &&& (31 : Int32)) = (16 : Int32) then (vp_in (x3 + (1 : Int32)) L ∧ (w_X8_restore (xs (x3 + (1 : Int32)).toNatClampNeg) (fun (r654 : Int32) (M654 : Mem) => (M654.1 (10, 0, 0, 0) = M.1 (10, 0, 0, 0) ∧ (vp_in (x3 + (1 : Int32)) L ∧ (w_X9_restore (xs (x3 + (1 : Int32)).toNatClampNeg) (fun (r663 : Int32) (M663 : Mem) => (M663.1 (10, 0, 0, 0) = M654.1 (10, 0, 0, 0) ∧ (if r654 = r663 then (w_law xs L n (x3 + 6) M663) else False))) M654)))) M)) else (if ((xs x3.toNatClampNeg) &&& (31 : Int32)) = (17 : Int32) then (vp_in (x3 + (1 : Int32)) L ∧ (w_X8_told (xs (x3 + (1 : Int32)).toNatClampNeg) (fun (r677 : Int32) (M677 : Mem) => (M677.1 (10, 0, 0, 0) = M.1 (10, 0, 0, 0) ∧ (vp_in (x3 + (1 : Int32)) L ∧ (w_X9_told (xs (x3 + (1 : Int32)).toNatClampNeg) (fun (r686 : Int32) (M686 : Mem) => (M686.1 (10, 0, 0, 0) = M677.1 (10, 0, 0, 0) ∧ (if r677 = r686 then (w_law xs L n (x3 + 6) M686) else False))) M677)))) M)) else (w_law xs L n (x3 + 6) M)))))))))))))))))))))
theorem r_image {p : Program} {l : Launch} {e : Env} {R : Room} {s : State} {m : MethodId} {args : Array Value} {below : List Frame} {meth : Method} {c : Code} {H : Heap} {locs : List Loc} {cells slots : Nat} {Q : State → Prop} {cc : ByteArray} {pc nL index : Nat} {ls : Array Slot} {rest : List Value} {rt : Option FieldType} {own : String} {G : GG} {ad : ix → Nat} {M : Mem} {A : Nat → Prop} {n : Int32} {st0 : List Value} {Qp : Int32 → Mem → Prop} (C : cx p s m args meth c cc nL rt own G) (haK : aK s) (hls : ls.size = nL) (hP : wd G (lvs (M.1 (10, 0, 0, 0))) ad M H) (hS : va_S A s.heap H locs) (hA : ∀ q, s.heap.size ≤ q → A q) (hge : ∀ i, lvs (M.1 (10, 0, 0, 0)) i → s.heap.size ≤ ad i) (hw : w_X8_image n Qp M)
    (hl : Cond.methodLink own index yX8_image ∈ WG) (h1 : Cond.instanceMethod yX8_image ∈ WG) (h2 : Cond.selects RX8 yX8_image yX8_image ∈ WG) (h3 : Cond.initialized yX8_image.cls ∈ WG) (h4 : Cond.code yX8_image cX8_image 2 (some .int) ∈ WG) (hst : st0 = ([.int n] : List Value).reverse ++ .ref (ad (0, 0, 0, 0)) :: rest) (hR : rm_X8_image.frames + 1 ≤ R.frames ∧ 8 + (2 + 11) + rm_X8_image.locals ≤ R.locals) (hrest : (rest.map fun v => v.category).sum ≤ 8) (hcs : cells + 158 ≤ R.cells ∧ slots + 745 ≤ R.slots) (hdg : decode cc pc = .ok (.invokevirtual index, 3))
    (kk : ∀ (r : Int32) (M1 : Mem) (ad1 : ix → Nat) (H1 : Heap) (locs1 : List Loc), Qp r M1 → (∀ j, lvs (M.1 (10, 0, 0, 0)) j → ad1 j = ad j) → (∀ j, lvs (M1.1 (10, 0, 0, 0)) j → s.heap.size ≤ ad1 j) → wd G (lvs (M1.1 (10, 0, 0, 0))) ad1 M1 H1 → va_S A s.heap H1 locs1 → W p l e R s m args below meth c H1 locs1 (cells + 158) (slots + 745) Q (F0 m (pc + 3) ls (.int r :: rest))) : W p l e R s m args below meth c H locs cells slots Q (F0 m pc ls st0) := by
  obtain ⟨hx, hb, hml, hown, hts, -, -, hK⟩ := C
  have hP1 := hP.one lvs_0
  have hcw : CallW R s args own RX8 index yX8_image cX8_image 2 (some .int) (wW yX8_image cX8_image 2 (some .int)) rm_X8_image 158 745 1 := ⟨callB_of 1 (Ts := WG) hts (fun w hw => (List.mem_cons.mp hw).elim (fun e => by subst e; exact ⟨h4, wg_good h4⟩) (fun hw => ⟨hw, wg_good hw⟩)) rfl rfl rfl (hts _ h3) (hts _ hl) hd_X8_image hR, hts _ h1, hts _ h2⟩
  have hbl : FrameBlind (va_Pc [.ref (ad (0, 0, 0, 0)), .int n] (fun U => wd G (lvs (M.1 (10, 0, 0, 0))) ad M U.heap ∧ wK G U ∧ aK U ∧ U.heap.size = H.size)) := by
    intro a U g mk q
    obtain ⟨h1, h2, ⟨h3, h4⟩, h5, h6⟩ := q
    exact ⟨h1, h2, ⟨va_K.moved (u := U) (U := U.calling g mk a) (Vm.Alike.refl U.vm) h3, fun q hq => va_Nw.same rfl rfl (h4 q hq)⟩, aK.moved (u := U) (U := U.calling g mk a) (Vm.Alike.refl U.vm) h5, h6⟩
  have hsub : ∀ q, imA (M.1 (10, 0, 0, 0)) ad H.size q → A q := fun q hq => hq.elim (fun h => by obtain ⟨i, hi, e⟩ := h; rw [← e]; exact hA _ (hge i hi)) (fun h => hA q (Nat.le_trans hS.1 h))
  refine va_calli (va_runV (As := [.int n]) (rest := rest) ⟨hx, hb, hml, hown, hts⟩ (k_X8_image l G rfl hw) hcw ⟨hbl, va_recv hK.1 hP1 (q0 := 0) (ci := 8) rfl rfl, fun U hU hW => ⟨rfl, by rw [hU]; exact hP, hK.warm hW, haK.moved hW.alike, by rw [hU]⟩⟩ rfl rfl hls hst (lv_room hrest) hdg hcs) hS (fun q _ h => hsub q h) hsub (fun r u t H1 locs1 ht hvm hw hB hz1 hk1 hS1 => ?_)
  obtain ⟨M1, ad1⟩ := u
  obtain ⟨g1, g2, g3⟩ := hB
  refine kk r M1 ad1 H1 locs1 hw g1 (fun j hj => ?_) (by rw [← ht]; exact g3) hS1
  by_cases e : lvs (M.1 (10, 0, 0, 0)) j
  · have h := g1 j e
    dsimp only at h
    rw [h]; exact hge j e
  · exact Nat.le_trans hS.1 (g2 j hj e)
set_option maxHeartbeats 8000000 in
set_option maxRecDepth 100000 in
theorem j_law {p : Program} {l : Launch} {e : Env} {s : State} {m : MethodId} {below : List Frame} {meth : Method} {c : Code} {G : GG} {b L : Nat} {xs : Nat → Int32} {a1 a2 : Nat} (C : cx p s m #[Value.ref b] meth c code 4 ret RL G) (haK : aK s) (hX : va_X b L xs s s.heap) (hbl : b < s.heap.size) :
    ∀ (n k : Nat) (x3 : Int32) (M : Mem) (ad : ix → Nat) (H : Heap) (locs : List Loc) (ls : Array Slot), k + n ≤ 514 → w_law xs L n x3 M → ad (0, 0, 0, 0) = a1 → ad (29, 0, 0, 0) = a2 → (∀ i, lvs (M.1 (10, 0, 0, 0)) i → s.heap.size ≤ ad i) → wd G (lvs (M.1 (10, 0, 0, 0))) ad M H → va_S (fun q : Nat => s.heap.size ≤ q) s.heap H locs → lv_has ls 4 [(0, .ref b), (1, .ref a1), (2, .ref a2), (3, .int x3)] → W p l e room_1 s m #[Value.ref b] below meth c H locs (200 + 158 * k) (4000 + 745 * k) (lw_Z below #[Value.ref b] s) (F0 m 18 ls []) := by
  have hx := C.1
  have hb := C.2.1
  have hr := C.2.2.2.2.2.1
  have hlocks := C.2.2.2.2.2.2.1
  have hA : ∀ q : Nat, s.heap.size ≤ q → (fun q : Nat => s.heap.size ≤ q) q := fun _ h => h
  have hbA : ¬ (fun q : Nat => s.heap.size ≤ q) b := Nat.not_le.mpr hbl
  have hsb : ∀ {f : Nat → Int32} {ad : ix → Nat}, (∀ i, lvs f i → s.heap.size ≤ ad i) → ∀ q, fA (lvs f) ad q → (fun q : Nat => s.heap.size ≤ q) q := fun hge q h => by obtain ⟨i, hi, e⟩ := h; show s.heap.size ≤ q; rw [← e]; exact hge i hi
  intro n
  induction n with
  | zero =>
    intro k x3 M ad H locs ls hkn hw
    rw [w_law] at hw
    exact hw.elim
  | succ n ih =>
    intro k x3 M ad H locs ls hkn hw h1 h2 hge hP hS hl
    rw [w_law] at hw
    refine lv_iload_n (pc := 18) hx hb dL_law_18 rfl (lv_at hl 3 rfl) ?_
    refine lv_aload_n (pc := 19) hx hb dL_law_19 rfl (lv_at hl 0 rfl) ?_
    refine va_slen (pc := 20) hx hb hX hbl hbA hS dL_law_20 ?_
    refine lv_bipush (pc := 21) (v := (6 : Int32)) hx hb dL_law_21 (by decide) ?_
    refine lv_isub (pc := 23) hx hb dL_law_23 ?_
    refine lv_icmp_gt (pc := 24) (tgt := 700) hx hb dL_law_24 (by decide) (fun h => ?_) (fun h => ?_)
    · replace hw := if_t h hw
      refine lv_iconst (pc := 700) (v := (1 : Int32)) hx hb dL_law_700 (by decide) ?_
      refine va_forget (fun q hq => hS.2.2 q hq) ?_
      refine W.widen (k := 760528) (n := 6820663) (by omega) (by omega) ?_
      exact lw_ret hx hb hr hlocks dL_law_701
    · replace hw := if_f h hw
      refine lv_aload_n (pc := 27) hx hb dL_law_27 rfl (lv_at hl 0 rfl) ?_
      refine lv_iload_n (pc := 28) hx hb dL_law_28 rfl (lv_at hl 3 rfl) ?_
      refine va_sld (pc := 29) hx hb hX hbl hbA hS hw.1 dL_law_29 ?_
      replace hw := hw.2
      refine lv_bipush (pc := 30) (v := (31 : Int32)) hx hb dL_law_30 (by decide) ?_
      refine lv_iand (pc := 32) hx hb dL_law_32 ?_
      by_cases hk0 : ((xs x3.toNatClampNeg) &&& (31 : Int32)) = (0 : Int32)
      · replace hw := if_t hk0 hw
        refine lv_tableIn (pc := 33) (tgt := 120) (off := 87) hx hb dL_law_33 (by rw [hk0]; decide) (by rw [hk0]; decide) (by rw [hk0]; rfl) (by decide) ?_
        refine lv_aload_n (pc := 120) hx hb dL_law_120 rfl (lv_at hl 1 rfl) ?_
        refine lv_aload_n (pc := 121) hx hb dL_law_121 rfl (lv_at hl 0 rfl) ?_
        refine lv_iload_n (pc := 122) hx hb dL_law_122 rfl (lv_at hl 3 rfl) ?_
        refine lv_iconst (pc := 123) (v := (1 : Int32)) hx hb dL_law_123 (by decide) ?_
        refine lv_iadd (pc := 124) hx hb dL_law_124 ?_
        refine va_sld (pc := 125) hx hb hX hbl hbA hS hw.1 dL_law_125 ?_
        replace hw := hw.2
        refine lv_aload_n (pc := 126) hx hb dL_law_126 rfl (lv_at hl 0 rfl) ?_
        refine lv_iload_n (pc := 127) hx hb dL_law_127 rfl (lv_at hl 3 rfl) ?_
        refine lv_iconst (pc := 128) (v := (2 : Int32)) hx hb dL_law_128 (by decide) ?_
        refine lv_iadd (pc := 129) hx hb dL_law_129 ?_
        refine va_sld (pc := 130) hx hb hX hbl hbA hS hw.1 dL_law_130 ?_
        replace hw := hw.2
        refine lv_aload_n (pc := 131) hx hb dL_law_131 rfl (lv_at hl 0 rfl) ?_
        refine lv_iload_n (pc := 132) hx hb dL_law_132 rfl (lv_at hl 3 rfl) ?_
        refine lv_iconst (pc := 133) (v := (3 : Int32)) hx hb dL_law_133 (by decide) ?_
        refine lv_iadd (pc := 134) hx hb dL_law_134 ?_
        refine va_sld (pc := 135) hx hb hX hbl hbA hS hw.1 dL_law_135 ?_
        replace hw := hw.2
        refine lv_aload_n (pc := 136) hx hb dL_law_136 rfl (lv_at hl 0 rfl) ?_
        refine lv_iload_n (pc := 137) hx hb dL_law_137 rfl (lv_at hl 3 rfl) ?_
        refine lv_iconst (pc := 138) (v := (4 : Int32)) hx hb dL_law_138 (by decide) ?_
        refine lv_iadd (pc := 139) hx hb dL_law_139 ?_
        refine va_sld (pc := 140) hx hb hX hbl hbA hS hw.1 dL_law_140 ?_
        replace hw := hw.2
        refine lv_aload_n (pc := 141) hx hb dL_law_141 rfl (lv_at hl 0 rfl) ?_
        refine lv_iload_n (pc := 142) hx hb dL_law_142 rfl (lv_at hl 3 rfl) ?_
        refine lv_iconst (pc := 143) (v := (5 : Int32)) hx hb dL_law_143 (by decide) ?_
        refine lv_iadd (pc := 144) hx hb dL_law_144 ?_
        refine va_sld (pc := 145) hx hb hX hbl hbA hS hw.1 dL_law_145 ?_
        replace hw := hw.2
        refine r_lVI (pc := 146) (rest := []) (As := [.int (xs (x3 + (1 : Int32)).toNatClampNeg), .int (xs (x3 + (2 : Int32)).toNatClampNeg), .int (xs (x3 + (3 : Int32)).toNatClampNeg), .int (xs (x3 + (4 : Int32)).toNatClampNeg), .int (xs (x3 + (5 : Int32)).toNatClampNeg)]) C hl.1 hP hS (hsb hge) (k_X8_add l G (clo_lvs _) lvs_0 hw) lvs_0 rfl rfl mw_322 mw_323 mw_324 mw_56 mw_325 ⟨rfl, rfl⟩ hd_X8_add rfl (by rw [h1]; rfl) ⟨Nat.le_of_ble_eq_true rfl, Nat.le_of_ble_eq_true rfl⟩ (Nat.le_of_ble_eq_true rfl) ⟨(by show 200 + 158 * k ≤ 760528; omega), (by show 4000 + 745 * k ≤ 6820663; omega)⟩ dL_law_146 (fun r146 M146 H locs hw hP hS => ?_)
        rw [← hw.1] at hP hge
        replace hw := hw.2
        refine lv_aload_n (pc := 149) hx hb dL_law_149 rfl (lv_at hl 2 rfl) ?_
        refine lv_aload_n (pc := 150) hx hb dL_law_150 rfl (lv_at hl 0 rfl) ?_
        refine lv_iload_n (pc := 151) hx hb dL_law_151 rfl (lv_at hl 3 rfl) ?_
        refine lv_iconst (pc := 152) (v := (1 : Int32)) hx hb dL_law_152 (by decide) ?_
        refine lv_iadd (pc := 153) hx hb dL_law_153 ?_
        refine va_sld (pc := 154) hx hb hX hbl hbA hS hw.1 dL_law_154 ?_
        replace hw := hw.2
        refine lv_aload_n (pc := 155) hx hb dL_law_155 rfl (lv_at hl 0 rfl) ?_
        refine lv_iload_n (pc := 156) hx hb dL_law_156 rfl (lv_at hl 3 rfl) ?_
        refine lv_iconst (pc := 157) (v := (2 : Int32)) hx hb dL_law_157 (by decide) ?_
        refine lv_iadd (pc := 158) hx hb dL_law_158 ?_
        refine va_sld (pc := 159) hx hb hX hbl hbA hS hw.1 dL_law_159 ?_
        replace hw := hw.2
        refine lv_aload_n (pc := 160) hx hb dL_law_160 rfl (lv_at hl 0 rfl) ?_
        refine lv_iload_n (pc := 161) hx hb dL_law_161 rfl (lv_at hl 3 rfl) ?_
        refine lv_iconst (pc := 162) (v := (3 : Int32)) hx hb dL_law_162 (by decide) ?_
        refine lv_iadd (pc := 163) hx hb dL_law_163 ?_
        refine va_sld (pc := 164) hx hb hX hbl hbA hS hw.1 dL_law_164 ?_
        replace hw := hw.2
        refine lv_aload_n (pc := 165) hx hb dL_law_165 rfl (lv_at hl 0 rfl) ?_
        refine lv_iload_n (pc := 166) hx hb dL_law_166 rfl (lv_at hl 3 rfl) ?_
        refine lv_iconst (pc := 167) (v := (4 : Int32)) hx hb dL_law_167 (by decide) ?_
        refine lv_iadd (pc := 168) hx hb dL_law_168 ?_
        refine va_sld (pc := 169) hx hb hX hbl hbA hS hw.1 dL_law_169 ?_
        replace hw := hw.2
        refine lv_aload_n (pc := 170) hx hb dL_law_170 rfl (lv_at hl 0 rfl) ?_
        refine lv_iload_n (pc := 171) hx hb dL_law_171 rfl (lv_at hl 3 rfl) ?_
        refine lv_iconst (pc := 172) (v := (5 : Int32)) hx hb dL_law_172 (by decide) ?_
        refine lv_iadd (pc := 173) hx hb dL_law_173 ?_
        refine va_sld (pc := 174) hx hb hX hbl hbA hS hw.1 dL_law_174 ?_
        replace hw := hw.2
        refine r_lVI (pc := 175) (rest := [.int r146]) (As := [.int (xs (x3 + (1 : Int32)).toNatClampNeg), .int (xs (x3 + (2 : Int32)).toNatClampNeg), .int (xs (x3 + (3 : Int32)).toNatClampNeg), .int (xs (x3 + (4 : Int32)).toNatClampNeg), .int (xs (x3 + (5 : Int32)).toNatClampNeg)]) C hl.1 hP hS (hsb hge) (k_X9_add l G (clo_lvs _) (lvs_K lvs_md (by decide) (by decide)) hw) (lvs_K lvs_md (by decide) (by decide)) rfl rfl mw_772 mw_773 mw_774 mw_65 mw_775 ⟨rfl, rfl⟩ hd_X9_add rfl (by rw [h2]; rfl) ⟨Nat.le_of_ble_eq_true rfl, Nat.le_of_ble_eq_true rfl⟩ (Nat.le_of_ble_eq_true rfl) ⟨(by show 200 + 158 * k ≤ 760528; omega), (by show 4000 + 745 * k ≤ 6820663; omega)⟩ dL_law_175 (fun r175 M175 H locs hw hP hS => ?_)
        rw [← hw.1] at hP hge
        replace hw := hw.2
        refine lv_icmp_eq (pc := 178) (tgt := 694) hx hb dL_law_178 (by decide) (fun h => ?_) (fun h => ?_)
        · replace hw := if_t h hw
          refine lv_iinc (pc := 694) (v := x3 + 6) (lv' := [(3, .int (x3 + 6)), (0, .ref b), (1, .ref a1), (2, .ref a2)]) hx hb dL_law_694 hl (k := 3) rfl rfl (by decide) rfl (fun ls hl => ?_)
          refine lv_goto (pc := 697) (tgt := 18) hx hb dL_law_697 (by decide) ?_
          refine W.widen (k := 200 + 158 * (k + 1)) (n := 4000 + 745 * (k + 1)) (by omega) (by omega) ?_
          exact ih (k + 1) (x3 + 6) M175 _ _ _ ls (by omega) hw h1 h2 hge hP hS (lv_sub hl [1, 2, 3, 0] rfl)
        · replace hw := if_f h hw
          refine lv_iconst (pc := 181) (v := (0 : Int32)) hx hb dL_law_181 (by decide) ?_
          exact hw.elim
      · replace hw := if_f hk0 hw
        by_cases hk1 : ((xs x3.toNatClampNeg) &&& (31 : Int32)) = (1 : Int32)
        · replace hw := if_t hk1 hw
          refine lv_tableIn (pc := 33) (tgt := 183) (off := 150) hx hb dL_law_33 (by rw [hk1]; decide) (by rw [hk1]; decide) (by rw [hk1]; rfl) (by decide) ?_
          refine lv_aload_n (pc := 183) hx hb dL_law_183 rfl (lv_at hl 1 rfl) ?_
          refine lv_aload_n (pc := 184) hx hb dL_law_184 rfl (lv_at hl 0 rfl) ?_
          refine lv_iload_n (pc := 185) hx hb dL_law_185 rfl (lv_at hl 3 rfl) ?_
          refine lv_iconst (pc := 186) (v := (1 : Int32)) hx hb dL_law_186 (by decide) ?_
          refine lv_iadd (pc := 187) hx hb dL_law_187 ?_
          refine va_sld (pc := 188) hx hb hX hbl hbA hS hw.1 dL_law_188 ?_
          replace hw := hw.2
          refine lv_aload_n (pc := 189) hx hb dL_law_189 rfl (lv_at hl 0 rfl) ?_
          refine lv_iload_n (pc := 190) hx hb dL_law_190 rfl (lv_at hl 3 rfl) ?_
          refine lv_iconst (pc := 191) (v := (2 : Int32)) hx hb dL_law_191 (by decide) ?_
          refine lv_iadd (pc := 192) hx hb dL_law_192 ?_
          refine va_sld (pc := 193) hx hb hX hbl hbA hS hw.1 dL_law_193 ?_
          replace hw := hw.2
          refine r_lVI (pc := 194) (rest := []) (As := [.int (xs (x3 + (1 : Int32)).toNatClampNeg), .int (xs (x3 + (2 : Int32)).toNatClampNeg)]) C hl.1 hP hS (hsb hge) (k_X8_drop l G (clo_lvs _) lvs_0 hw) lvs_0 rfl rfl mw_354 mw_355 mw_356 mw_56 mw_357 ⟨rfl, rfl⟩ hd_X8_drop rfl (by rw [h1]; rfl) ⟨Nat.le_of_ble_eq_true rfl, Nat.le_of_ble_eq_true rfl⟩ (Nat.le_of_ble_eq_true rfl) ⟨(by show 200 + 158 * k ≤ 760528; omega), (by show 4000 + 745 * k ≤ 6820663; omega)⟩ dL_law_194 (fun r194 M194 H locs hw hP hS => ?_)
          rw [← hw.1] at hP hge
          replace hw := hw.2
          refine lv_aload_n (pc := 197) hx hb dL_law_197 rfl (lv_at hl 2 rfl) ?_
          refine lv_aload_n (pc := 198) hx hb dL_law_198 rfl (lv_at hl 0 rfl) ?_
          refine lv_iload_n (pc := 199) hx hb dL_law_199 rfl (lv_at hl 3 rfl) ?_
          refine lv_iconst (pc := 200) (v := (1 : Int32)) hx hb dL_law_200 (by decide) ?_
          refine lv_iadd (pc := 201) hx hb dL_law_201 ?_
          refine va_sld (pc := 202) hx hb hX hbl hbA hS hw.1 dL_law_202 ?_
          replace hw := hw.2
          refine lv_aload_n (pc := 203) hx hb dL_law_203 rfl (lv_at hl 0 rfl) ?_
          refine lv_iload_n (pc := 204) hx hb dL_law_204 rfl (lv_at hl 3 rfl) ?_
          refine lv_iconst (pc := 205) (v := (2 : Int32)) hx hb dL_law_205 (by decide) ?_
          refine lv_iadd (pc := 206) hx hb dL_law_206 ?_
          refine va_sld (pc := 207) hx hb hX hbl hbA hS hw.1 dL_law_207 ?_
          replace hw := hw.2
          refine r_lVI (pc := 208) (rest := [.int r194]) (As := [.int (xs (x3 + (1 : Int32)).toNatClampNeg), .int (xs (x3 + (2 : Int32)).toNatClampNeg)]) C hl.1 hP hS (hsb hge) (k_X9_drop l G (clo_lvs _) (lvs_K lvs_md (by decide) (by decide)) hw) (lvs_K lvs_md (by decide) (by decide)) rfl rfl mw_790 mw_791 mw_792 mw_65 mw_793 ⟨rfl, rfl⟩ hd_X9_drop rfl (by rw [h2]; rfl) ⟨Nat.le_of_ble_eq_true rfl, Nat.le_of_ble_eq_true rfl⟩ (Nat.le_of_ble_eq_true rfl) ⟨(by show 200 + 158 * k ≤ 760528; omega), (by show 4000 + 745 * k ≤ 6820663; omega)⟩ dL_law_208 (fun r208 M208 H locs hw hP hS => ?_)
          rw [← hw.1] at hP hge
          replace hw := hw.2
          refine lv_icmp_eq (pc := 211) (tgt := 694) hx hb dL_law_211 (by decide) (fun h => ?_) (fun h => ?_)
          · replace hw := if_t h hw
            refine lv_iinc (pc := 694) (v := x3 + 6) (lv' := [(3, .int (x3 + 6)), (0, .ref b), (1, .ref a1), (2, .ref a2)]) hx hb dL_law_694 hl (k := 3) rfl rfl (by decide) rfl (fun ls hl => ?_)
            refine lv_goto (pc := 697) (tgt := 18) hx hb dL_law_697 (by decide) ?_
            refine W.widen (k := 200 + 158 * (k + 1)) (n := 4000 + 745 * (k + 1)) (by omega) (by omega) ?_
            exact ih (k + 1) (x3 + 6) M208 _ _ _ ls (by omega) hw h1 h2 hge hP hS (lv_sub hl [1, 2, 3, 0] rfl)
          · replace hw := if_f h hw
            refine lv_iconst (pc := 214) (v := (0 : Int32)) hx hb dL_law_214 (by decide) ?_
            exact hw.elim
        · replace hw := if_f hk1 hw
          by_cases hk2 : ((xs x3.toNatClampNeg) &&& (31 : Int32)) = (2 : Int32)
          · replace hw := if_t hk2 hw
            refine lv_tableIn (pc := 33) (tgt := 216) (off := 183) hx hb dL_law_33 (by rw [hk2]; decide) (by rw [hk2]; decide) (by rw [hk2]; rfl) (by decide) ?_
            refine lv_aload_n (pc := 216) hx hb dL_law_216 rfl (lv_at hl 1 rfl) ?_
            refine lv_aload_n (pc := 217) hx hb dL_law_217 rfl (lv_at hl 0 rfl) ?_
            refine lv_iload_n (pc := 218) hx hb dL_law_218 rfl (lv_at hl 3 rfl) ?_
            refine lv_iconst (pc := 219) (v := (1 : Int32)) hx hb dL_law_219 (by decide) ?_
            refine lv_iadd (pc := 220) hx hb dL_law_220 ?_
            refine va_sld (pc := 221) hx hb hX hbl hbA hS hw.1 dL_law_221 ?_
            replace hw := hw.2
            refine r_lVI (pc := 222) (rest := []) (As := [.int (xs (x3 + (1 : Int32)).toNatClampNeg)]) C hl.1 hP hS (hsb hge) (k_X8_anew l G (clo_lvs _) lvs_0 hw) lvs_0 rfl rfl mw_373 mw_374 mw_375 mw_56 mw_376 ⟨rfl, rfl⟩ hd_X8_anew rfl (by rw [h1]; rfl) ⟨Nat.le_of_ble_eq_true rfl, Nat.le_of_ble_eq_true rfl⟩ (Nat.le_of_ble_eq_true rfl) ⟨(by show 200 + 158 * k ≤ 760528; omega), (by show 4000 + 745 * k ≤ 6820663; omega)⟩ dL_law_222 (fun r222 M222 H locs hw hP hS => ?_)
            rw [← hw.1] at hP hge
            replace hw := hw.2
            refine lv_aload_n (pc := 225) hx hb dL_law_225 rfl (lv_at hl 2 rfl) ?_
            refine lv_aload_n (pc := 226) hx hb dL_law_226 rfl (lv_at hl 0 rfl) ?_
            refine lv_iload_n (pc := 227) hx hb dL_law_227 rfl (lv_at hl 3 rfl) ?_
            refine lv_iconst (pc := 228) (v := (1 : Int32)) hx hb dL_law_228 (by decide) ?_
            refine lv_iadd (pc := 229) hx hb dL_law_229 ?_
            refine va_sld (pc := 230) hx hb hX hbl hbA hS hw.1 dL_law_230 ?_
            replace hw := hw.2
            refine r_lVI (pc := 231) (rest := [.int r222]) (As := [.int (xs (x3 + (1 : Int32)).toNatClampNeg)]) C hl.1 hP hS (hsb hge) (k_X9_anew l G (clo_lvs _) (lvs_K lvs_md (by decide) (by decide)) hw) (lvs_K lvs_md (by decide) (by decide)) rfl rfl mw_802 mw_803 mw_804 mw_65 mw_805 ⟨rfl, rfl⟩ hd_X9_anew rfl (by rw [h2]; rfl) ⟨Nat.le_of_ble_eq_true rfl, Nat.le_of_ble_eq_true rfl⟩ (Nat.le_of_ble_eq_true rfl) ⟨(by show 200 + 158 * k ≤ 760528; omega), (by show 4000 + 745 * k ≤ 6820663; omega)⟩ dL_law_231 (fun r231 M231 H locs hw hP hS => ?_)
            rw [← hw.1] at hP hge
            replace hw := hw.2
            refine lv_icmp_eq (pc := 234) (tgt := 694) hx hb dL_law_234 (by decide) (fun h => ?_) (fun h => ?_)
            · replace hw := if_t h hw
              refine lv_iinc (pc := 694) (v := x3 + 6) (lv' := [(3, .int (x3 + 6)), (0, .ref b), (1, .ref a1), (2, .ref a2)]) hx hb dL_law_694 hl (k := 3) rfl rfl (by decide) rfl (fun ls hl => ?_)
              refine lv_goto (pc := 697) (tgt := 18) hx hb dL_law_697 (by decide) ?_
              refine W.widen (k := 200 + 158 * (k + 1)) (n := 4000 + 745 * (k + 1)) (by omega) (by omega) ?_
              exact ih (k + 1) (x3 + 6) M231 _ _ _ ls (by omega) hw h1 h2 hge hP hS (lv_sub hl [1, 2, 3, 0] rfl)
            · replace hw := if_f h hw
              refine lv_iconst (pc := 237) (v := (0 : Int32)) hx hb dL_law_237 (by decide) ?_
              exact hw.elim
          · replace hw := if_f hk2 hw
            by_cases hk3 : ((xs x3.toNatClampNeg) &&& (31 : Int32)) = (3 : Int32)
            · replace hw := if_t hk3 hw
              refine lv_tableIn (pc := 33) (tgt := 239) (off := 206) hx hb dL_law_33 (by rw [hk3]; decide) (by rw [hk3]; decide) (by rw [hk3]; rfl) (by decide) ?_
              refine lv_aload_n (pc := 239) hx hb dL_law_239 rfl (lv_at hl 1 rfl) ?_
              refine lv_aload_n (pc := 240) hx hb dL_law_240 rfl (lv_at hl 0 rfl) ?_
              refine lv_iload_n (pc := 241) hx hb dL_law_241 rfl (lv_at hl 3 rfl) ?_
              refine lv_iconst (pc := 242) (v := (1 : Int32)) hx hb dL_law_242 (by decide) ?_
              refine lv_iadd (pc := 243) hx hb dL_law_243 ?_
              refine va_sld (pc := 244) hx hb hX hbl hbA hS hw.1 dL_law_244 ?_
              replace hw := hw.2
              refine lv_aload_n (pc := 245) hx hb dL_law_245 rfl (lv_at hl 0 rfl) ?_
              refine lv_iload_n (pc := 246) hx hb dL_law_246 rfl (lv_at hl 3 rfl) ?_
              refine lv_iconst (pc := 247) (v := (2 : Int32)) hx hb dL_law_247 (by decide) ?_
              refine lv_iadd (pc := 248) hx hb dL_law_248 ?_
              refine va_sld (pc := 249) hx hb hX hbl hbA hS hw.1 dL_law_249 ?_
              replace hw := hw.2
              refine lv_aload_n (pc := 250) hx hb dL_law_250 rfl (lv_at hl 0 rfl) ?_
              refine lv_iload_n (pc := 251) hx hb dL_law_251 rfl (lv_at hl 3 rfl) ?_
              refine lv_iconst (pc := 252) (v := (3 : Int32)) hx hb dL_law_252 (by decide) ?_
              refine lv_iadd (pc := 253) hx hb dL_law_253 ?_
              refine va_sld (pc := 254) hx hb hX hbl hbA hS hw.1 dL_law_254 ?_
              replace hw := hw.2
              refine r_lVI (pc := 255) (rest := []) (As := [.int (xs (x3 + (1 : Int32)).toNatClampNeg), .int (xs (x3 + (2 : Int32)).toNatClampNeg), .int (xs (x3 + (3 : Int32)).toNatClampNeg)]) C hl.1 hP hS (hsb hge) (k_X8_cell l G (clo_lvs _) lvs_0 hw) lvs_0 rfl rfl mw_399 mw_400 mw_401 mw_56 mw_402 ⟨rfl, rfl⟩ hd_X8_cell rfl (by rw [h1]; rfl) ⟨Nat.le_of_ble_eq_true rfl, Nat.le_of_ble_eq_true rfl⟩ (Nat.le_of_ble_eq_true rfl) ⟨(by show 200 + 158 * k ≤ 760528; omega), (by show 4000 + 745 * k ≤ 6820663; omega)⟩ dL_law_255 (fun r255 M255 H locs hw hP hS => ?_)
              rw [← hw.1] at hP hge
              replace hw := hw.2
              refine lv_aload_n (pc := 258) hx hb dL_law_258 rfl (lv_at hl 2 rfl) ?_
              refine lv_aload_n (pc := 259) hx hb dL_law_259 rfl (lv_at hl 0 rfl) ?_
              refine lv_iload_n (pc := 260) hx hb dL_law_260 rfl (lv_at hl 3 rfl) ?_
              refine lv_iconst (pc := 261) (v := (1 : Int32)) hx hb dL_law_261 (by decide) ?_
              refine lv_iadd (pc := 262) hx hb dL_law_262 ?_
              refine va_sld (pc := 263) hx hb hX hbl hbA hS hw.1 dL_law_263 ?_
              replace hw := hw.2
              refine lv_aload_n (pc := 264) hx hb dL_law_264 rfl (lv_at hl 0 rfl) ?_
              refine lv_iload_n (pc := 265) hx hb dL_law_265 rfl (lv_at hl 3 rfl) ?_
              refine lv_iconst (pc := 266) (v := (2 : Int32)) hx hb dL_law_266 (by decide) ?_
              refine lv_iadd (pc := 267) hx hb dL_law_267 ?_
              refine va_sld (pc := 268) hx hb hX hbl hbA hS hw.1 dL_law_268 ?_
              replace hw := hw.2
              refine lv_aload_n (pc := 269) hx hb dL_law_269 rfl (lv_at hl 0 rfl) ?_
              refine lv_iload_n (pc := 270) hx hb dL_law_270 rfl (lv_at hl 3 rfl) ?_
              refine lv_iconst (pc := 271) (v := (3 : Int32)) hx hb dL_law_271 (by decide) ?_
              refine lv_iadd (pc := 272) hx hb dL_law_272 ?_
              refine va_sld (pc := 273) hx hb hX hbl hbA hS hw.1 dL_law_273 ?_
              replace hw := hw.2
              refine r_lVI (pc := 274) (rest := [.int r255]) (As := [.int (xs (x3 + (1 : Int32)).toNatClampNeg), .int (xs (x3 + (2 : Int32)).toNatClampNeg), .int (xs (x3 + (3 : Int32)).toNatClampNeg)]) C hl.1 hP hS (hsb hge) (k_X9_cell l G (clo_lvs _) (lvs_K lvs_md (by decide) (by decide)) hw) (lvs_K lvs_md (by decide) (by decide)) rfl rfl mw_814 mw_815 mw_816 mw_65 mw_817 ⟨rfl, rfl⟩ hd_X9_cell rfl (by rw [h2]; rfl) ⟨Nat.le_of_ble_eq_true rfl, Nat.le_of_ble_eq_true rfl⟩ (Nat.le_of_ble_eq_true rfl) ⟨(by show 200 + 158 * k ≤ 760528; omega), (by show 4000 + 745 * k ≤ 6820663; omega)⟩ dL_law_274 (fun r274 M274 H locs hw hP hS => ?_)
              rw [← hw.1] at hP hge
              replace hw := hw.2
              refine lv_icmp_eq (pc := 277) (tgt := 694) hx hb dL_law_277 (by decide) (fun h => ?_) (fun h => ?_)
              · replace hw := if_t h hw
                refine lv_iinc (pc := 694) (v := x3 + 6) (lv' := [(3, .int (x3 + 6)), (0, .ref b), (1, .ref a1), (2, .ref a2)]) hx hb dL_law_694 hl (k := 3) rfl rfl (by decide) rfl (fun ls hl => ?_)
                refine lv_goto (pc := 697) (tgt := 18) hx hb dL_law_697 (by decide) ?_
                refine W.widen (k := 200 + 158 * (k + 1)) (n := 4000 + 745 * (k + 1)) (by omega) (by omega) ?_
                exact ih (k + 1) (x3 + 6) M274 _ _ _ ls (by omega) hw h1 h2 hge hP hS (lv_sub hl [1, 2, 3, 0] rfl)
              · replace hw := if_f h hw
                refine lv_iconst (pc := 280) (v := (0 : Int32)) hx hb dL_law_280 (by decide) ?_
                exact hw.elim
            · replace hw := if_f hk3 hw
              by_cases hk4 : ((xs x3.toNatClampNeg) &&& (31 : Int32)) = (4 : Int32)
              · replace hw := if_t hk4 hw
                refine lv_tableIn (pc := 33) (tgt := 282) (off := 249) hx hb dL_law_33 (by rw [hk4]; decide) (by rw [hk4]; decide) (by rw [hk4]; rfl) (by decide) ?_
                refine lv_aload_n (pc := 282) hx hb dL_law_282 rfl (lv_at hl 1 rfl) ?_
                refine lv_aload_n (pc := 283) hx hb dL_law_283 rfl (lv_at hl 0 rfl) ?_
                refine lv_iload_n (pc := 284) hx hb dL_law_284 rfl (lv_at hl 3 rfl) ?_
                refine lv_iconst (pc := 285) (v := (1 : Int32)) hx hb dL_law_285 (by decide) ?_
                refine lv_iadd (pc := 286) hx hb dL_law_286 ?_
                refine va_sld (pc := 287) hx hb hX hbl hbA hS hw.1 dL_law_287 ?_
                replace hw := hw.2
                refine lv_aload_n (pc := 288) hx hb dL_law_288 rfl (lv_at hl 0 rfl) ?_
                refine lv_iload_n (pc := 289) hx hb dL_law_289 rfl (lv_at hl 3 rfl) ?_
                refine lv_iconst (pc := 290) (v := (2 : Int32)) hx hb dL_law_290 (by decide) ?_
                refine lv_iadd (pc := 291) hx hb dL_law_291 ?_
                refine va_sld (pc := 292) hx hb hX hbl hbA hS hw.1 dL_law_292 ?_
                replace hw := hw.2
                refine lv_aload_n (pc := 293) hx hb dL_law_293 rfl (lv_at hl 0 rfl) ?_
                refine lv_iload_n (pc := 294) hx hb dL_law_294 rfl (lv_at hl 3 rfl) ?_
                refine lv_iconst (pc := 295) (v := (3 : Int32)) hx hb dL_law_295 (by decide) ?_
                refine lv_iadd (pc := 296) hx hb dL_law_296 ?_
                refine va_sld (pc := 297) hx hb hX hbl hbA hS hw.1 dL_law_297 ?_
                replace hw := hw.2
                refine r_lVI (pc := 298) (rest := []) (As := [.int (xs (x3 + (1 : Int32)).toNatClampNeg), .int (xs (x3 + (2 : Int32)).toNatClampNeg), .int (xs (x3 + (3 : Int32)).toNatClampNeg)]) C hl.1 hP hS (hsb hge) (k_X8_summary l G (clo_lvs _) lvs_0 hw) lvs_0 rfl rfl mw_407 mw_408 mw_409 mw_56 mw_410 ⟨rfl, rfl⟩ hd_X8_summary rfl (by rw [h1]; rfl) ⟨Nat.le_of_ble_eq_true rfl, Nat.le_of_ble_eq_true rfl⟩ (Nat.le_of_ble_eq_true rfl) ⟨(by show 200 + 158 * k ≤ 760528; omega), (by show 4000 + 745 * k ≤ 6820663; omega)⟩ dL_law_298 (fun r298 M298 H locs hw hP hS => ?_)
                rw [← hw.1] at hP hge
                replace hw := hw.2
                refine lv_aload_n (pc := 301) hx hb dL_law_301 rfl (lv_at hl 2 rfl) ?_
                refine lv_aload_n (pc := 302) hx hb dL_law_302 rfl (lv_at hl 0 rfl) ?_
                refine lv_iload_n (pc := 303) hx hb dL_law_303 rfl (lv_at hl 3 rfl) ?_
                refine lv_iconst (pc := 304) (v := (1 : Int32)) hx hb dL_law_304 (by decide) ?_
                refine lv_iadd (pc := 305) hx hb dL_law_305 ?_
                refine va_sld (pc := 306) hx hb hX hbl hbA hS hw.1 dL_law_306 ?_
                replace hw := hw.2
                refine lv_aload_n (pc := 307) hx hb dL_law_307 rfl (lv_at hl 0 rfl) ?_
                refine lv_iload_n (pc := 308) hx hb dL_law_308 rfl (lv_at hl 3 rfl) ?_
                refine lv_iconst (pc := 309) (v := (2 : Int32)) hx hb dL_law_309 (by decide) ?_
                refine lv_iadd (pc := 310) hx hb dL_law_310 ?_
                refine va_sld (pc := 311) hx hb hX hbl hbA hS hw.1 dL_law_311 ?_
                replace hw := hw.2
                refine lv_aload_n (pc := 312) hx hb dL_law_312 rfl (lv_at hl 0 rfl) ?_
                refine lv_iload_n (pc := 313) hx hb dL_law_313 rfl (lv_at hl 3 rfl) ?_
                refine lv_iconst (pc := 314) (v := (3 : Int32)) hx hb dL_law_314 (by decide) ?_
                refine lv_iadd (pc := 315) hx hb dL_law_315 ?_
                refine va_sld (pc := 316) hx hb hX hbl hbA hS hw.1 dL_law_316 ?_
                replace hw := hw.2
                refine r_lVI (pc := 317) (rest := [.int r298]) (As := [.int (xs (x3 + (1 : Int32)).toNatClampNeg), .int (xs (x3 + (2 : Int32)).toNatClampNeg), .int (xs (x3 + (3 : Int32)).toNatClampNeg)]) C hl.1 hP hS (hsb hge) (k_X9_summary l G (clo_lvs _) (lvs_K lvs_md (by decide) (by decide)) hw) (lvs_K lvs_md (by decide) (by decide)) rfl rfl mw_822 mw_823 mw_824 mw_65 mw_825 ⟨rfl, rfl⟩ hd_X9_summary rfl (by rw [h2]; rfl) ⟨Nat.le_of_ble_eq_true rfl, Nat.le_of_ble_eq_true rfl⟩ (Nat.le_of_ble_eq_true rfl) ⟨(by show 200 + 158 * k ≤ 760528; omega), (by show 4000 + 745 * k ≤ 6820663; omega)⟩ dL_law_317 (fun r317 M317 H locs hw hP hS => ?_)
                rw [← hw.1] at hP hge
                replace hw := hw.2
                refine lv_icmp_eq (pc := 320) (tgt := 694) hx hb dL_law_320 (by decide) (fun h => ?_) (fun h => ?_)
                · replace hw := if_t h hw
                  refine lv_iinc (pc := 694) (v := x3 + 6) (lv' := [(3, .int (x3 + 6)), (0, .ref b), (1, .ref a1), (2, .ref a2)]) hx hb dL_law_694 hl (k := 3) rfl rfl (by decide) rfl (fun ls hl => ?_)
                  refine lv_goto (pc := 697) (tgt := 18) hx hb dL_law_697 (by decide) ?_
                  refine W.widen (k := 200 + 158 * (k + 1)) (n := 4000 + 745 * (k + 1)) (by omega) (by omega) ?_
                  exact ih (k + 1) (x3 + 6) M317 _ _ _ ls (by omega) hw h1 h2 hge hP hS (lv_sub hl [1, 2, 3, 0] rfl)
                · replace hw := if_f h hw
                  refine lv_iconst (pc := 323) (v := (0 : Int32)) hx hb dL_law_323 (by decide) ?_
                  exact hw.elim
              · replace hw := if_f hk4 hw
                by_cases hk5 : ((xs x3.toNatClampNeg) &&& (31 : Int32)) = (5 : Int32)
                · replace hw := if_t hk5 hw
                  refine lv_tableIn (pc := 33) (tgt := 325) (off := 292) hx hb dL_law_33 (by rw [hk5]; decide) (by rw [hk5]; decide) (by rw [hk5]; rfl) (by decide) ?_
                  refine lv_aload_n (pc := 325) hx hb dL_law_325 rfl (lv_at hl 1 rfl) ?_
                  refine lv_aload_n (pc := 326) hx hb dL_law_326 rfl (lv_at hl 0 rfl) ?_
                  refine lv_iload_n (pc := 327) hx hb dL_law_327 rfl (lv_at hl 3 rfl) ?_
                  refine lv_iconst (pc := 328) (v := (1 : Int32)) hx hb dL_law_328 (by decide) ?_
                  refine lv_iadd (pc := 329) hx hb dL_law_329 ?_
                  refine va_sld (pc := 330) hx hb hX hbl hbA hS hw.1 dL_law_330 ?_
                  replace hw := hw.2
                  refine lv_aload_n (pc := 331) hx hb dL_law_331 rfl (lv_at hl 0 rfl) ?_
                  refine lv_iload_n (pc := 332) hx hb dL_law_332 rfl (lv_at hl 3 rfl) ?_
                  refine lv_iconst (pc := 333) (v := (2 : Int32)) hx hb dL_law_333 (by decide) ?_
                  refine lv_iadd (pc := 334) hx hb dL_law_334 ?_
                  refine va_sld (pc := 335) hx hb hX hbl hbA hS hw.1 dL_law_335 ?_
                  replace hw := hw.2
                  refine lv_aload_n (pc := 336) hx hb dL_law_336 rfl (lv_at hl 0 rfl) ?_
                  refine lv_iload_n (pc := 337) hx hb dL_law_337 rfl (lv_at hl 3 rfl) ?_
                  refine lv_iconst (pc := 338) (v := (3 : Int32)) hx hb dL_law_338 (by decide) ?_
                  refine lv_iadd (pc := 339) hx hb dL_law_339 ?_
                  refine va_sld (pc := 340) hx hb hX hbl hbA hS hw.1 dL_law_340 ?_
                  replace hw := hw.2
                  refine lv_aload_n (pc := 341) hx hb dL_law_341 rfl (lv_at hl 0 rfl) ?_
                  refine lv_iload_n (pc := 342) hx hb dL_law_342 rfl (lv_at hl 3 rfl) ?_
                  refine lv_iconst (pc := 343) (v := (4 : Int32)) hx hb dL_law_343 (by decide) ?_
                  refine lv_iadd (pc := 344) hx hb dL_law_344 ?_
                  refine va_sld (pc := 345) hx hb hX hbl hbA hS hw.1 dL_law_345 ?_
                  replace hw := hw.2
                  refine r_lVI (pc := 346) (rest := []) (As := [.int (xs (x3 + (1 : Int32)).toNatClampNeg), .int (xs (x3 + (2 : Int32)).toNatClampNeg), .int (xs (x3 + (3 : Int32)).toNatClampNeg), .int (xs (x3 + (4 : Int32)).toNatClampNeg)]) C hl.1 hP hS (hsb hge) (k_X8_listed l G (clo_lvs _) lvs_0 hw) lvs_0 rfl rfl mw_414 mw_415 mw_416 mw_56 mw_417 ⟨rfl, rfl⟩ hd_X8_listed rfl (by rw [h1]; rfl) ⟨Nat.le_of_ble_eq_true rfl, Nat.le_of_ble_eq_true rfl⟩ (Nat.le_of_ble_eq_true rfl) ⟨(by show 200 + 158 * k ≤ 760528; omega), (by show 4000 + 745 * k ≤ 6820663; omega)⟩ dL_law_346 (fun r346 M346 H locs hw hP hS => ?_)
                  rw [← hw.1] at hP hge
                  replace hw := hw.2
                  refine lv_aload_n (pc := 349) hx hb dL_law_349 rfl (lv_at hl 2 rfl) ?_
                  refine lv_aload_n (pc := 350) hx hb dL_law_350 rfl (lv_at hl 0 rfl) ?_
                  refine lv_iload_n (pc := 351) hx hb dL_law_351 rfl (lv_at hl 3 rfl) ?_
                  refine lv_iconst (pc := 352) (v := (1 : Int32)) hx hb dL_law_352 (by decide) ?_
                  refine lv_iadd (pc := 353) hx hb dL_law_353 ?_
                  refine va_sld (pc := 354) hx hb hX hbl hbA hS hw.1 dL_law_354 ?_
                  replace hw := hw.2
                  refine lv_aload_n (pc := 355) hx hb dL_law_355 rfl (lv_at hl 0 rfl) ?_
                  refine lv_iload_n (pc := 356) hx hb dL_law_356 rfl (lv_at hl 3 rfl) ?_
                  refine lv_iconst (pc := 357) (v := (2 : Int32)) hx hb dL_law_357 (by decide) ?_
                  refine lv_iadd (pc := 358) hx hb dL_law_358 ?_
                  refine va_sld (pc := 359) hx hb hX hbl hbA hS hw.1 dL_law_359 ?_
                  replace hw := hw.2
                  refine lv_aload_n (pc := 360) hx hb dL_law_360 rfl (lv_at hl 0 rfl) ?_
                  refine lv_iload_n (pc := 361) hx hb dL_law_361 rfl (lv_at hl 3 rfl) ?_
                  refine lv_iconst (pc := 362) (v := (3 : Int32)) hx hb dL_law_362 (by decide) ?_
                  refine lv_iadd (pc := 363) hx hb dL_law_363 ?_
                  refine va_sld (pc := 364) hx hb hX hbl hbA hS hw.1 dL_law_364 ?_
                  replace hw := hw.2
                  refine lv_aload_n (pc := 365) hx hb dL_law_365 rfl (lv_at hl 0 rfl) ?_
                  refine lv_iload_n (pc := 366) hx hb dL_law_366 rfl (lv_at hl 3 rfl) ?_
                  refine lv_iconst (pc := 367) (v := (4 : Int32)) hx hb dL_law_367 (by decide) ?_
                  refine lv_iadd (pc := 368) hx hb dL_law_368 ?_
                  refine va_sld (pc := 369) hx hb hX hbl hbA hS hw.1 dL_law_369 ?_
                  replace hw := hw.2
                  refine r_lVI (pc := 370) (rest := [.int r346]) (As := [.int (xs (x3 + (1 : Int32)).toNatClampNeg), .int (xs (x3 + (2 : Int32)).toNatClampNeg), .int (xs (x3 + (3 : Int32)).toNatClampNeg), .int (xs (x3 + (4 : Int32)).toNatClampNeg)]) C hl.1 hP hS (hsb hge) (k_X9_listed l G (clo_lvs _) (lvs_K lvs_md (by decide) (by decide)) hw) (lvs_K lvs_md (by decide) (by decide)) rfl rfl mw_827 mw_828 mw_829 mw_65 mw_830 ⟨rfl, rfl⟩ hd_X9_listed rfl (by rw [h2]; rfl) ⟨Nat.le_of_ble_eq_true rfl, Nat.le_of_ble_eq_true rfl⟩ (Nat.le_of_ble_eq_true rfl) ⟨(by show 200 + 158 * k ≤ 760528; omega), (by show 4000 + 745 * k ≤ 6820663; omega)⟩ dL_law_370 (fun r370 M370 H locs hw hP hS => ?_)
                  rw [← hw.1] at hP hge
                  replace hw := hw.2
                  refine lv_icmp_eq (pc := 373) (tgt := 694) hx hb dL_law_373 (by decide) (fun h => ?_) (fun h => ?_)
                  · replace hw := if_t h hw
                    refine lv_iinc (pc := 694) (v := x3 + 6) (lv' := [(3, .int (x3 + 6)), (0, .ref b), (1, .ref a1), (2, .ref a2)]) hx hb dL_law_694 hl (k := 3) rfl rfl (by decide) rfl (fun ls hl => ?_)
                    refine lv_goto (pc := 697) (tgt := 18) hx hb dL_law_697 (by decide) ?_
                    refine W.widen (k := 200 + 158 * (k + 1)) (n := 4000 + 745 * (k + 1)) (by omega) (by omega) ?_
                    exact ih (k + 1) (x3 + 6) M370 _ _ _ ls (by omega) hw h1 h2 hge hP hS (lv_sub hl [1, 2, 3, 0] rfl)
                  · replace hw := if_f h hw
                    refine lv_iconst (pc := 376) (v := (0 : Int32)) hx hb dL_law_376 (by decide) ?_
                    exact hw.elim
                · replace hw := if_f hk5 hw
                  by_cases hk6 : ((xs x3.toNatClampNeg) &&& (31 : Int32)) = (6 : Int32)
                  · replace hw := if_t hk6 hw
                    refine lv_tableIn (pc := 33) (tgt := 378) (off := 345) hx hb dL_law_33 (by rw [hk6]; decide) (by rw [hk6]; decide) (by rw [hk6]; rfl) (by decide) ?_
                    refine lv_aload_n (pc := 378) hx hb dL_law_378 rfl (lv_at hl 1 rfl) ?_
                    refine lv_aload_n (pc := 379) hx hb dL_law_379 rfl (lv_at hl 0 rfl) ?_
                    refine lv_iload_n (pc := 380) hx hb dL_law_380 rfl (lv_at hl 3 rfl) ?_
                    refine lv_iconst (pc := 381) (v := (1 : Int32)) hx hb dL_law_381 (by decide) ?_
                    refine lv_iadd (pc := 382) hx hb dL_law_382 ?_
                    refine va_sld (pc := 383) hx hb hX hbl hbA hS hw.1 dL_law_383 ?_
                    replace hw := hw.2
                    refine r_lVI (pc := 384) (rest := []) (As := [.int (xs (x3 + (1 : Int32)).toNatClampNeg)]) C hl.1 hP hS (hsb hge) (k_X8_say l G (clo_lvs _) lvs_0 hw) lvs_0 rfl rfl mw_418 mw_419 mw_420 mw_56 mw_421 ⟨rfl, rfl⟩ hd_X8_say rfl (by rw [h1]; rfl) ⟨Nat.le_of_ble_eq_true rfl, Nat.le_of_ble_eq_true rfl⟩ (Nat.le_of_ble_eq_true rfl) ⟨(by show 200 + 158 * k ≤ 760528; omega), (by show 4000 + 745 * k ≤ 6820663; omega)⟩ dL_law_384 (fun r384 M384 H locs hw hP hS => ?_)
                    rw [← hw.1] at hP hge
                    replace hw := hw.2
                    refine lv_aload_n (pc := 387) hx hb dL_law_387 rfl (lv_at hl 2 rfl) ?_
                    refine lv_aload_n (pc := 388) hx hb dL_law_388 rfl (lv_at hl 0 rfl) ?_
                    refine lv_iload_n (pc := 389) hx hb dL_law_389 rfl (lv_at hl 3 rfl) ?_
                    refine lv_iconst (pc := 390) (v := (1 : Int32)) hx hb dL_law_390 (by decide) ?_
                    refine lv_iadd (pc := 391) hx hb dL_law_391 ?_
                    refine va_sld (pc := 392) hx hb hX hbl hbA hS hw.1 dL_law_392 ?_
                    replace hw := hw.2
                    refine r_lVI (pc := 393) (rest := [.int r384]) (As := [.int (xs (x3 + (1 : Int32)).toNatClampNeg)]) C hl.1 hP hS (hsb hge) (k_X9_say l G (clo_lvs _) (lvs_K lvs_md (by decide) (by decide)) hw) (lvs_K lvs_md (by decide) (by decide)) rfl rfl mw_831 mw_832 mw_833 mw_65 mw_834 ⟨rfl, rfl⟩ hd_X9_say rfl (by rw [h2]; rfl) ⟨Nat.le_of_ble_eq_true rfl, Nat.le_of_ble_eq_true rfl⟩ (Nat.le_of_ble_eq_true rfl) ⟨(by show 200 + 158 * k ≤ 760528; omega), (by show 4000 + 745 * k ≤ 6820663; omega)⟩ dL_law_393 (fun r393 M393 H locs hw hP hS => ?_)
                    rw [← hw.1] at hP hge
                    replace hw := hw.2
                    refine lv_icmp_eq (pc := 396) (tgt := 694) hx hb dL_law_396 (by decide) (fun h => ?_) (fun h => ?_)
                    · replace hw := if_t h hw
                      refine lv_iinc (pc := 694) (v := x3 + 6) (lv' := [(3, .int (x3 + 6)), (0, .ref b), (1, .ref a1), (2, .ref a2)]) hx hb dL_law_694 hl (k := 3) rfl rfl (by decide) rfl (fun ls hl => ?_)
                      refine lv_goto (pc := 697) (tgt := 18) hx hb dL_law_697 (by decide) ?_
                      refine W.widen (k := 200 + 158 * (k + 1)) (n := 4000 + 745 * (k + 1)) (by omega) (by omega) ?_
                      exact ih (k + 1) (x3 + 6) M393 _ _ _ ls (by omega) hw h1 h2 hge hP hS (lv_sub hl [1, 2, 3, 0] rfl)
                    · replace hw := if_f h hw
                      refine lv_iconst (pc := 399) (v := (0 : Int32)) hx hb dL_law_399 (by decide) ?_
                      exact hw.elim
                  · replace hw := if_f hk6 hw
                    by_cases hk7 : ((xs x3.toNatClampNeg) &&& (31 : Int32)) = (7 : Int32)
                    · replace hw := if_t hk7 hw
                      refine lv_tableIn (pc := 33) (tgt := 401) (off := 368) hx hb dL_law_33 (by rw [hk7]; decide) (by rw [hk7]; decide) (by rw [hk7]; rfl) (by decide) ?_
                      refine lv_aload_n (pc := 401) hx hb dL_law_401 rfl (lv_at hl 1 rfl) ?_
                      refine r_lVI (pc := 402) (rest := []) (As := []) C hl.1 hP hS (hsb hge) (k_X8_wipe l G (clo_lvs _) lvs_0 hw) lvs_0 rfl rfl mw_469 mw_470 mw_471 mw_56 mw_472 ⟨rfl, rfl⟩ hd_X8_wipe rfl (by rw [h1]; rfl) ⟨Nat.le_of_ble_eq_true rfl, Nat.le_of_ble_eq_true rfl⟩ (Nat.le_of_ble_eq_true rfl) ⟨(by show 200 + 158 * k ≤ 760528; omega), (by show 4000 + 745 * k ≤ 6820663; omega)⟩ dL_law_402 (fun r402 M402 H locs hw hP hS => ?_)
                      rw [← hw.1] at hP hge
                      replace hw := hw.2
                      refine lv_aload_n (pc := 405) hx hb dL_law_405 rfl (lv_at hl 2 rfl) ?_
                      refine r_lVI (pc := 406) (rest := [.int r402]) (As := []) C hl.1 hP hS (hsb hge) (k_X9_wipe l G (clo_lvs _) (lvs_K lvs_md (by decide) (by decide)) hw) (lvs_K lvs_md (by decide) (by decide)) rfl rfl mw_835 mw_836 mw_837 mw_65 mw_838 ⟨rfl, rfl⟩ hd_X9_wipe rfl (by rw [h2]; rfl) ⟨Nat.le_of_ble_eq_true rfl, Nat.le_of_ble_eq_true rfl⟩ (Nat.le_of_ble_eq_true rfl) ⟨(by show 200 + 158 * k ≤ 760528; omega), (by show 4000 + 745 * k ≤ 6820663; omega)⟩ dL_law_406 (fun r406 M406 H locs hw hP hS => ?_)
                      rw [← hw.1] at hP hge
                      replace hw := hw.2
                      refine lv_icmp_eq (pc := 409) (tgt := 694) hx hb dL_law_409 (by decide) (fun h => ?_) (fun h => ?_)
                      · replace hw := if_t h hw
                        refine lv_iinc (pc := 694) (v := x3 + 6) (lv' := [(3, .int (x3 + 6)), (0, .ref b), (1, .ref a1), (2, .ref a2)]) hx hb dL_law_694 hl (k := 3) rfl rfl (by decide) rfl (fun ls hl => ?_)
                        refine lv_goto (pc := 697) (tgt := 18) hx hb dL_law_697 (by decide) ?_
                        refine W.widen (k := 200 + 158 * (k + 1)) (n := 4000 + 745 * (k + 1)) (by omega) (by omega) ?_
                        exact ih (k + 1) (x3 + 6) M406 _ _ _ ls (by omega) hw h1 h2 hge hP hS (lv_sub hl [1, 2, 3, 0] rfl)
                      · replace hw := if_f h hw
                        refine lv_iconst (pc := 412) (v := (0 : Int32)) hx hb dL_law_412 (by decide) ?_
                        exact hw.elim
                    · replace hw := if_f hk7 hw
                      by_cases hk8 : ((xs x3.toNatClampNeg) &&& (31 : Int32)) = (8 : Int32)
                      · replace hw := if_t hk8 hw
                        refine lv_tableIn (pc := 33) (tgt := 414) (off := 381) hx hb dL_law_33 (by rw [hk8]; decide) (by rw [hk8]; decide) (by rw [hk8]; rfl) (by decide) ?_
                        refine lv_aload_n (pc := 414) hx hb dL_law_414 rfl (lv_at hl 1 rfl) ?_
                        refine r_lVI (pc := 415) (rest := []) (As := []) C hl.1 hP hS (hsb hge) (k_X8_fault l G (clo_lvs _) lvs_0 hw) lvs_0 rfl rfl mw_474 mw_475 mw_476 mw_56 mw_477 ⟨rfl, rfl⟩ hd_X8_fault rfl (by rw [h1]; rfl) ⟨Nat.le_of_ble_eq_true rfl, Nat.le_of_ble_eq_true rfl⟩ (Nat.le_of_ble_eq_true rfl) ⟨(by show 200 + 158 * k ≤ 760528; omega), (by show 4000 + 745 * k ≤ 6820663; omega)⟩ dL_law_415 (fun r415 M415 H locs hw hP hS => ?_)
                        rw [← hw.1] at hP hge
                        replace hw := hw.2
                        refine lv_aload_n (pc := 418) hx hb dL_law_418 rfl (lv_at hl 2 rfl) ?_
                        refine r_lVI (pc := 419) (rest := [.int r415]) (As := []) C hl.1 hP hS (hsb hge) (k_X9_fault l G (clo_lvs _) (lvs_K lvs_md (by decide) (by decide)) hw) (lvs_K lvs_md (by decide) (by decide)) rfl rfl mw_839 mw_840 mw_841 mw_65 mw_842 ⟨rfl, rfl⟩ hd_X9_fault rfl (by rw [h2]; rfl) ⟨Nat.le_of_ble_eq_true rfl, Nat.le_of_ble_eq_true rfl⟩ (Nat.le_of_ble_eq_true rfl) ⟨(by show 200 + 158 * k ≤ 760528; omega), (by show 4000 + 745 * k ≤ 6820663; omega)⟩ dL_law_419 (fun r419 M419 H locs hw hP hS => ?_)
                        rw [← hw.1] at hP hge
                        replace hw := hw.2
                        refine lv_icmp_eq (pc := 422) (tgt := 694) hx hb dL_law_422 (by decide) (fun h => ?_) (fun h => ?_)
                        · replace hw := if_t h hw
                          refine lv_iinc (pc := 694) (v := x3 + 6) (lv' := [(3, .int (x3 + 6)), (0, .ref b), (1, .ref a1), (2, .ref a2)]) hx hb dL_law_694 hl (k := 3) rfl rfl (by decide) rfl (fun ls hl => ?_)
                          refine lv_goto (pc := 697) (tgt := 18) hx hb dL_law_697 (by decide) ?_
                          refine W.widen (k := 200 + 158 * (k + 1)) (n := 4000 + 745 * (k + 1)) (by omega) (by omega) ?_
                          exact ih (k + 1) (x3 + 6) M419 _ _ _ ls (by omega) hw h1 h2 hge hP hS (lv_sub hl [1, 2, 3, 0] rfl)
                        · replace hw := if_f h hw
                          refine lv_iconst (pc := 425) (v := (0 : Int32)) hx hb dL_law_425 (by decide) ?_
                          exact hw.elim
                      · replace hw := if_f hk8 hw
                        by_cases hk9 : ((xs x3.toNatClampNeg) &&& (31 : Int32)) = (9 : Int32)
                        · replace hw := if_t hk9 hw
                          refine lv_tableIn (pc := 33) (tgt := 427) (off := 394) hx hb dL_law_33 (by rw [hk9]; decide) (by rw [hk9]; decide) (by rw [hk9]; rfl) (by decide) ?_
                          refine lv_aload_n (pc := 427) hx hb dL_law_427 rfl (lv_at hl 1 rfl) ?_
                          refine lv_aload_n (pc := 428) hx hb dL_law_428 rfl (lv_at hl 0 rfl) ?_
                          refine lv_iload_n (pc := 429) hx hb dL_law_429 rfl (lv_at hl 3 rfl) ?_
                          refine lv_iconst (pc := 430) (v := (1 : Int32)) hx hb dL_law_430 (by decide) ?_
                          refine lv_iadd (pc := 431) hx hb dL_law_431 ?_
                          refine va_sld (pc := 432) hx hb hX hbl hbA hS hw.1 dL_law_432 ?_
                          replace hw := hw.2
                          refine lv_aload_n (pc := 433) hx hb dL_law_433 rfl (lv_at hl 0 rfl) ?_
                          refine lv_iload_n (pc := 434) hx hb dL_law_434 rfl (lv_at hl 3 rfl) ?_
                          refine lv_iconst (pc := 435) (v := (2 : Int32)) hx hb dL_law_435 (by decide) ?_
                          refine lv_iadd (pc := 436) hx hb dL_law_436 ?_
                          refine va_sld (pc := 437) hx hb hX hbl hbA hS hw.1 dL_law_437 ?_
                          replace hw := hw.2
                          refine r_lVI (pc := 438) (rest := []) (As := [.int (xs (x3 + (1 : Int32)).toNatClampNeg), .int (xs (x3 + (2 : Int32)).toNatClampNeg)]) C hl.1 hP hS (hsb hge) (k_X8_truth l G (clo_lvs _) lvs_0 hw) lvs_0 rfl rfl mw_482 mw_483 mw_484 mw_56 mw_485 ⟨rfl, rfl⟩ hd_X8_truth rfl (by rw [h1]; rfl) ⟨Nat.le_of_ble_eq_true rfl, Nat.le_of_ble_eq_true rfl⟩ (Nat.le_of_ble_eq_true rfl) ⟨(by show 200 + 158 * k ≤ 760528; omega), (by show 4000 + 745 * k ≤ 6820663; omega)⟩ dL_law_438 (fun r438 M438 H locs hw hP hS => ?_)
                          rw [← hw.1] at hP hge
                          replace hw := hw.2
                          refine lv_aload_n (pc := 441) hx hb dL_law_441 rfl (lv_at hl 2 rfl) ?_
                          refine lv_aload_n (pc := 442) hx hb dL_law_442 rfl (lv_at hl 0 rfl) ?_
                          refine lv_iload_n (pc := 443) hx hb dL_law_443 rfl (lv_at hl 3 rfl) ?_
                          refine lv_iconst (pc := 444) (v := (1 : Int32)) hx hb dL_law_444 (by decide) ?_
                          refine lv_iadd (pc := 445) hx hb dL_law_445 ?_
                          refine va_sld (pc := 446) hx hb hX hbl hbA hS hw.1 dL_law_446 ?_
                          replace hw := hw.2
                          refine lv_aload_n (pc := 447) hx hb dL_law_447 rfl (lv_at hl 0 rfl) ?_
                          refine lv_iload_n (pc := 448) hx hb dL_law_448 rfl (lv_at hl 3 rfl) ?_
                          refine lv_iconst (pc := 449) (v := (2 : Int32)) hx hb dL_law_449 (by decide) ?_
                          refine lv_iadd (pc := 450) hx hb dL_law_450 ?_
                          refine va_sld (pc := 451) hx hb hX hbl hbA hS hw.1 dL_law_451 ?_
                          replace hw := hw.2
                          refine r_lVI (pc := 452) (rest := [.int r438]) (As := [.int (xs (x3 + (1 : Int32)).toNatClampNeg), .int (xs (x3 + (2 : Int32)).toNatClampNeg)]) C hl.1 hP hS (hsb hge) (k_X9_truth l G (clo_lvs _) (lvs_K lvs_md (by decide) (by decide)) hw) (lvs_K lvs_md (by decide) (by decide)) rfl rfl mw_856 mw_857 mw_858 mw_65 mw_859 ⟨rfl, rfl⟩ hd_X9_truth rfl (by rw [h2]; rfl) ⟨Nat.le_of_ble_eq_true rfl, Nat.le_of_ble_eq_true rfl⟩ (Nat.le_of_ble_eq_true rfl) ⟨(by show 200 + 158 * k ≤ 760528; omega), (by show 4000 + 745 * k ≤ 6820663; omega)⟩ dL_law_452 (fun r452 M452 H locs hw hP hS => ?_)
                          rw [← hw.1] at hP hge
                          replace hw := hw.2
                          refine lv_icmp_eq (pc := 455) (tgt := 694) hx hb dL_law_455 (by decide) (fun h => ?_) (fun h => ?_)
                          · replace hw := if_t h hw
                            refine lv_iinc (pc := 694) (v := x3 + 6) (lv' := [(3, .int (x3 + 6)), (0, .ref b), (1, .ref a1), (2, .ref a2)]) hx hb dL_law_694 hl (k := 3) rfl rfl (by decide) rfl (fun ls hl => ?_)
                            refine lv_goto (pc := 697) (tgt := 18) hx hb dL_law_697 (by decide) ?_
                            refine W.widen (k := 200 + 158 * (k + 1)) (n := 4000 + 745 * (k + 1)) (by omega) (by omega) ?_
                            exact ih (k + 1) (x3 + 6) M452 _ _ _ ls (by omega) hw h1 h2 hge hP hS (lv_sub hl [1, 2, 3, 0] rfl)
                          · replace hw := if_f h hw
                            refine lv_iconst (pc := 458) (v := (0 : Int32)) hx hb dL_law_458 (by decide) ?_
                            exact hw.elim
                        · replace hw := if_f hk9 hw
                          by_cases hk10 : ((xs x3.toNatClampNeg) &&& (31 : Int32)) = (10 : Int32)
                          · replace hw := if_t hk10 hw
                            refine lv_tableIn (pc := 33) (tgt := 460) (off := 427) hx hb dL_law_33 (by rw [hk10]; decide) (by rw [hk10]; decide) (by rw [hk10]; rfl) (by decide) ?_
                            refine lv_aload_n (pc := 460) hx hb dL_law_460 rfl (lv_at hl 1 rfl) ?_
                            refine lv_aload_n (pc := 461) hx hb dL_law_461 rfl (lv_at hl 0 rfl) ?_
                            refine lv_iload_n (pc := 462) hx hb dL_law_462 rfl (lv_at hl 3 rfl) ?_
                            refine lv_iconst (pc := 463) (v := (1 : Int32)) hx hb dL_law_463 (by decide) ?_
                            refine lv_iadd (pc := 464) hx hb dL_law_464 ?_
                            refine va_sld (pc := 465) hx hb hX hbl hbA hS hw.1 dL_law_465 ?_
                            replace hw := hw.2
                            refine lv_aload_n (pc := 466) hx hb dL_law_466 rfl (lv_at hl 0 rfl) ?_
                            refine lv_iload_n (pc := 467) hx hb dL_law_467 rfl (lv_at hl 3 rfl) ?_
                            refine lv_iconst (pc := 468) (v := (2 : Int32)) hx hb dL_law_468 (by decide) ?_
                            refine lv_iadd (pc := 469) hx hb dL_law_469 ?_
                            refine va_sld (pc := 470) hx hb hX hbl hbA hS hw.1 dL_law_470 ?_
                            replace hw := hw.2
                            refine lv_aload_n (pc := 471) hx hb dL_law_471 rfl (lv_at hl 0 rfl) ?_
                            refine lv_iload_n (pc := 472) hx hb dL_law_472 rfl (lv_at hl 3 rfl) ?_
                            refine lv_iconst (pc := 473) (v := (3 : Int32)) hx hb dL_law_473 (by decide) ?_
                            refine lv_iadd (pc := 474) hx hb dL_law_474 ?_
                            refine va_sld (pc := 475) hx hb hX hbl hbA hS hw.1 dL_law_475 ?_
                            replace hw := hw.2
                            refine r_lVI (pc := 476) (rest := []) (As := [.int (xs (x3 + (1 : Int32)).toNatClampNeg), .int (xs (x3 + (2 : Int32)).toNatClampNeg), .int (xs (x3 + (3 : Int32)).toNatClampNeg)]) C hl.1 hP hS (hsb hge) (k_X8_range l G (clo_lvs _) lvs_0 hw) lvs_0 rfl rfl mw_519 mw_520 mw_521 mw_56 mw_522 ⟨rfl, rfl⟩ hd_X8_range rfl (by rw [h1]; rfl) ⟨Nat.le_of_ble_eq_true rfl, Nat.le_of_ble_eq_true rfl⟩ (Nat.le_of_ble_eq_true rfl) ⟨(by show 200 + 158 * k ≤ 760528; omega), (by show 4000 + 745 * k ≤ 6820663; omega)⟩ dL_law_476 (fun r476 M476 H locs hw hP hS => ?_)
                            rw [← hw.1] at hP hge
                            replace hw := hw.2
                            refine lv_aload_n (pc := 479) hx hb dL_law_479 rfl (lv_at hl 2 rfl) ?_
                            refine lv_aload_n (pc := 480) hx hb dL_law_480 rfl (lv_at hl 0 rfl) ?_
                            refine lv_iload_n (pc := 481) hx hb dL_law_481 rfl (lv_at hl 3 rfl) ?_
                            refine lv_iconst (pc := 482) (v := (1 : Int32)) hx hb dL_law_482 (by decide) ?_
                            refine lv_iadd (pc := 483) hx hb dL_law_483 ?_
                            refine va_sld (pc := 484) hx hb hX hbl hbA hS hw.1 dL_law_484 ?_
                            replace hw := hw.2
                            refine lv_aload_n (pc := 485) hx hb dL_law_485 rfl (lv_at hl 0 rfl) ?_
                            refine lv_iload_n (pc := 486) hx hb dL_law_486 rfl (lv_at hl 3 rfl) ?_
                            refine lv_iconst (pc := 487) (v := (2 : Int32)) hx hb dL_law_487 (by decide) ?_
                            refine lv_iadd (pc := 488) hx hb dL_law_488 ?_
                            refine va_sld (pc := 489) hx hb hX hbl hbA hS hw.1 dL_law_489 ?_
                            replace hw := hw.2
                            refine lv_aload_n (pc := 490) hx hb dL_law_490 rfl (lv_at hl 0 rfl) ?_
                            refine lv_iload_n (pc := 491) hx hb dL_law_491 rfl (lv_at hl 3 rfl) ?_
                            refine lv_iconst (pc := 492) (v := (3 : Int32)) hx hb dL_law_492 (by decide) ?_
                            refine lv_iadd (pc := 493) hx hb dL_law_493 ?_
                            refine va_sld (pc := 494) hx hb hX hbl hbA hS hw.1 dL_law_494 ?_
                            replace hw := hw.2
                            refine r_lVI (pc := 495) (rest := [.int r476]) (As := [.int (xs (x3 + (1 : Int32)).toNatClampNeg), .int (xs (x3 + (2 : Int32)).toNatClampNeg), .int (xs (x3 + (3 : Int32)).toNatClampNeg)]) C hl.1 hP hS (hsb hge) (k_X9_range l G (clo_lvs _) (lvs_K lvs_md (by decide) (by decide)) hw) (lvs_K lvs_md (by decide) (by decide)) rfl rfl mw_903 mw_904 mw_905 mw_65 mw_906 ⟨rfl, rfl⟩ hd_X9_range rfl (by rw [h2]; rfl) ⟨Nat.le_of_ble_eq_true rfl, Nat.le_of_ble_eq_true rfl⟩ (Nat.le_of_ble_eq_true rfl) ⟨(by show 200 + 158 * k ≤ 760528; omega), (by show 4000 + 745 * k ≤ 6820663; omega)⟩ dL_law_495 (fun r495 M495 H locs hw hP hS => ?_)
                            rw [← hw.1] at hP hge
                            replace hw := hw.2
                            refine lv_icmp_eq (pc := 498) (tgt := 694) hx hb dL_law_498 (by decide) (fun h => ?_) (fun h => ?_)
                            · replace hw := if_t h hw
                              refine lv_iinc (pc := 694) (v := x3 + 6) (lv' := [(3, .int (x3 + 6)), (0, .ref b), (1, .ref a1), (2, .ref a2)]) hx hb dL_law_694 hl (k := 3) rfl rfl (by decide) rfl (fun ls hl => ?_)
                              refine lv_goto (pc := 697) (tgt := 18) hx hb dL_law_697 (by decide) ?_
                              refine W.widen (k := 200 + 158 * (k + 1)) (n := 4000 + 745 * (k + 1)) (by omega) (by omega) ?_
                              exact ih (k + 1) (x3 + 6) M495 _ _ _ ls (by omega) hw h1 h2 hge hP hS (lv_sub hl [1, 2, 3, 0] rfl)
                            · replace hw := if_f h hw
                              refine lv_iconst (pc := 501) (v := (0 : Int32)) hx hb dL_law_501 (by decide) ?_
                              exact hw.elim
                          · replace hw := if_f hk10 hw
                            by_cases hk11 : ((xs x3.toNatClampNeg) &&& (31 : Int32)) = (11 : Int32)
                            · replace hw := if_t hk11 hw
                              refine lv_tableIn (pc := 33) (tgt := 503) (off := 470) hx hb dL_law_33 (by rw [hk11]; decide) (by rw [hk11]; decide) (by rw [hk11]; rfl) (by decide) ?_
                              refine lv_aload_n (pc := 503) hx hb dL_law_503 rfl (lv_at hl 1 rfl) ?_
                              refine lv_aload_n (pc := 504) hx hb dL_law_504 rfl (lv_at hl 0 rfl) ?_
                              refine lv_iload_n (pc := 505) hx hb dL_law_505 rfl (lv_at hl 3 rfl) ?_
                              refine lv_iconst (pc := 506) (v := (1 : Int32)) hx hb dL_law_506 (by decide) ?_
                              refine lv_iadd (pc := 507) hx hb dL_law_507 ?_
                              refine va_sld (pc := 508) hx hb hX hbl hbA hS hw.1 dL_law_508 ?_
                              replace hw := hw.2
                              refine lv_aload_n (pc := 509) hx hb dL_law_509 rfl (lv_at hl 0 rfl) ?_
                              refine lv_iload_n (pc := 510) hx hb dL_law_510 rfl (lv_at hl 3 rfl) ?_
                              refine lv_iconst (pc := 511) (v := (2 : Int32)) hx hb dL_law_511 (by decide) ?_
                              refine lv_iadd (pc := 512) hx hb dL_law_512 ?_
                              refine va_sld (pc := 513) hx hb hX hbl hbA hS hw.1 dL_law_513 ?_
                              replace hw := hw.2
                              refine r_lVI (pc := 514) (rest := []) (As := [.int (xs (x3 + (1 : Int32)).toNatClampNeg), .int (xs (x3 + (2 : Int32)).toNatClampNeg)]) C hl.1 hP hS (hsb hge) (k_X8_may l G (clo_lvs _) lvs_0 hw) lvs_0 rfl rfl mw_593 mw_594 mw_595 mw_56 mw_596 ⟨rfl, rfl⟩ hd_X8_may rfl (by rw [h1]; rfl) ⟨Nat.le_of_ble_eq_true rfl, Nat.le_of_ble_eq_true rfl⟩ (Nat.le_of_ble_eq_true rfl) ⟨(by show 200 + 158 * k ≤ 760528; omega), (by show 4000 + 745 * k ≤ 6820663; omega)⟩ dL_law_514 (fun r514 M514 H locs hw hP hS => ?_)
                              rw [← hw.1] at hP hge
                              replace hw := hw.2
                              refine lv_aload_n (pc := 517) hx hb dL_law_517 rfl (lv_at hl 2 rfl) ?_
                              refine lv_aload_n (pc := 518) hx hb dL_law_518 rfl (lv_at hl 0 rfl) ?_
                              refine lv_iload_n (pc := 519) hx hb dL_law_519 rfl (lv_at hl 3 rfl) ?_
                              refine lv_iconst (pc := 520) (v := (1 : Int32)) hx hb dL_law_520 (by decide) ?_
                              refine lv_iadd (pc := 521) hx hb dL_law_521 ?_
                              refine va_sld (pc := 522) hx hb hX hbl hbA hS hw.1 dL_law_522 ?_
                              replace hw := hw.2
                              refine lv_aload_n (pc := 523) hx hb dL_law_523 rfl (lv_at hl 0 rfl) ?_
                              refine lv_iload_n (pc := 524) hx hb dL_law_524 rfl (lv_at hl 3 rfl) ?_
                              refine lv_iconst (pc := 525) (v := (2 : Int32)) hx hb dL_law_525 (by decide) ?_
                              refine lv_iadd (pc := 526) hx hb dL_law_526 ?_
                              refine va_sld (pc := 527) hx hb hX hbl hbA hS hw.1 dL_law_527 ?_
                              replace hw := hw.2
                              refine r_lVI (pc := 528) (rest := [.int r514]) (As := [.int (xs (x3 + (1 : Int32)).toNatClampNeg), .int (xs (x3 + (2 : Int32)).toNatClampNeg)]) C hl.1 hP hS (hsb hge) (k_X9_may l G (clo_lvs _) (lvs_K lvs_md (by decide) (by decide)) hw) (lvs_K lvs_md (by decide) (by decide)) rfl rfl mw_924 mw_925 mw_926 mw_65 mw_927 ⟨rfl, rfl⟩ hd_X9_may rfl (by rw [h2]; rfl) ⟨Nat.le_of_ble_eq_true rfl, Nat.le_of_ble_eq_true rfl⟩ (Nat.le_of_ble_eq_true rfl) ⟨(by show 200 + 158 * k ≤ 760528; omega), (by show 4000 + 745 * k ≤ 6820663; omega)⟩ dL_law_528 (fun r528 M528 H locs hw hP hS => ?_)
                              rw [← hw.1] at hP hge
                              replace hw := hw.2
                              refine lv_icmp_eq (pc := 531) (tgt := 694) hx hb dL_law_531 (by decide) (fun h => ?_) (fun h => ?_)
                              · replace hw := if_t h hw
                                refine lv_iinc (pc := 694) (v := x3 + 6) (lv' := [(3, .int (x3 + 6)), (0, .ref b), (1, .ref a1), (2, .ref a2)]) hx hb dL_law_694 hl (k := 3) rfl rfl (by decide) rfl (fun ls hl => ?_)
                                refine lv_goto (pc := 697) (tgt := 18) hx hb dL_law_697 (by decide) ?_
                                refine W.widen (k := 200 + 158 * (k + 1)) (n := 4000 + 745 * (k + 1)) (by omega) (by omega) ?_
                                exact ih (k + 1) (x3 + 6) M528 _ _ _ ls (by omega) hw h1 h2 hge hP hS (lv_sub hl [1, 2, 3, 0] rfl)
                              · replace hw := if_f h hw
                                refine lv_iconst (pc := 534) (v := (0 : Int32)) hx hb dL_law_534 (by decide) ?_
                                exact hw.elim
                            · replace hw := if_f hk11 hw
                              by_cases hk12 : ((xs x3.toNatClampNeg) &&& (31 : Int32)) = (12 : Int32)
                              · replace hw := if_t hk12 hw
                                refine lv_tableIn (pc := 33) (tgt := 536) (off := 503) hx hb dL_law_33 (by rw [hk12]; decide) (by rw [hk12]; decide) (by rw [hk12]; rfl) (by decide) ?_
                                refine lv_aload_n (pc := 536) hx hb dL_law_536 rfl (lv_at hl 1 rfl) ?_
                                refine lv_aload_n (pc := 537) hx hb dL_law_537 rfl (lv_at hl 0 rfl) ?_
                                refine lv_iload_n (pc := 538) hx hb dL_law_538 rfl (lv_at hl 3 rfl) ?_
                                refine lv_iconst (pc := 539) (v := (1 : Int32)) hx hb dL_law_539 (by decide) ?_
                                refine lv_iadd (pc := 540) hx hb dL_law_540 ?_
                                refine va_sld (pc := 541) hx hb hX hbl hbA hS hw.1 dL_law_541 ?_
                                replace hw := hw.2
                                refine lv_aload_n (pc := 542) hx hb dL_law_542 rfl (lv_at hl 0 rfl) ?_
                                refine lv_iload_n (pc := 543) hx hb dL_law_543 rfl (lv_at hl 3 rfl) ?_
                                refine lv_iconst (pc := 544) (v := (2 : Int32)) hx hb dL_law_544 (by decide) ?_
                                refine lv_iadd (pc := 545) hx hb dL_law_545 ?_
                                refine va_sld (pc := 546) hx hb hX hbl hbA hS hw.1 dL_law_546 ?_
                                replace hw := hw.2
                                refine r_lVI (pc := 547) (rest := []) (As := [.int (xs (x3 + (1 : Int32)).toNatClampNeg), .int (xs (x3 + (2 : Int32)).toNatClampNeg)]) C hl.1 hP hS (hsb hge) (k_X8_verdict l G (clo_lvs _) lvs_0 hw) lvs_0 rfl rfl mw_597 mw_598 mw_599 mw_56 mw_600 ⟨rfl, rfl⟩ hd_X8_verdict rfl (by rw [h1]; rfl) ⟨Nat.le_of_ble_eq_true rfl, Nat.le_of_ble_eq_true rfl⟩ (Nat.le_of_ble_eq_true rfl) ⟨(by show 200 + 158 * k ≤ 760528; omega), (by show 4000 + 745 * k ≤ 6820663; omega)⟩ dL_law_547 (fun r547 M547 H locs hw hP hS => ?_)
                                rw [← hw.1] at hP hge
                                replace hw := hw.2
                                refine lv_aload_n (pc := 550) hx hb dL_law_550 rfl (lv_at hl 2 rfl) ?_
                                refine lv_aload_n (pc := 551) hx hb dL_law_551 rfl (lv_at hl 0 rfl) ?_
                                refine lv_iload_n (pc := 552) hx hb dL_law_552 rfl (lv_at hl 3 rfl) ?_
                                refine lv_iconst (pc := 553) (v := (1 : Int32)) hx hb dL_law_553 (by decide) ?_
                                refine lv_iadd (pc := 554) hx hb dL_law_554 ?_
                                refine va_sld (pc := 555) hx hb hX hbl hbA hS hw.1 dL_law_555 ?_
                                replace hw := hw.2
                                refine lv_aload_n (pc := 556) hx hb dL_law_556 rfl (lv_at hl 0 rfl) ?_
                                refine lv_iload_n (pc := 557) hx hb dL_law_557 rfl (lv_at hl 3 rfl) ?_
                                refine lv_iconst (pc := 558) (v := (2 : Int32)) hx hb dL_law_558 (by decide) ?_
                                refine lv_iadd (pc := 559) hx hb dL_law_559 ?_
                                refine va_sld (pc := 560) hx hb hX hbl hbA hS hw.1 dL_law_560 ?_
                                replace hw := hw.2
                                refine r_lVI (pc := 561) (rest := [.int r547]) (As := [.int (xs (x3 + (1 : Int32)).toNatClampNeg), .int (xs (x3 + (2 : Int32)).toNatClampNeg)]) C hl.1 hP hS (hsb hge) (k_X9_verdict l G (clo_lvs _) (lvs_K lvs_md (by decide) (by decide)) hw) (lvs_K lvs_md (by decide) (by decide)) rfl rfl mw_928 mw_929 mw_930 mw_65 mw_931 ⟨rfl, rfl⟩ hd_X9_verdict rfl (by rw [h2]; rfl) ⟨Nat.le_of_ble_eq_true rfl, Nat.le_of_ble_eq_true rfl⟩ (Nat.le_of_ble_eq_true rfl) ⟨(by show 200 + 158 * k ≤ 760528; omega), (by show 4000 + 745 * k ≤ 6820663; omega)⟩ dL_law_561 (fun r561 M561 H locs hw hP hS => ?_)
                                rw [← hw.1] at hP hge
                                replace hw := hw.2
                                refine lv_icmp_eq (pc := 564) (tgt := 694) hx hb dL_law_564 (by decide) (fun h => ?_) (fun h => ?_)
                                · replace hw := if_t h hw
                                  refine lv_iinc (pc := 694) (v := x3 + 6) (lv' := [(3, .int (x3 + 6)), (0, .ref b), (1, .ref a1), (2, .ref a2)]) hx hb dL_law_694 hl (k := 3) rfl rfl (by decide) rfl (fun ls hl => ?_)
                                  refine lv_goto (pc := 697) (tgt := 18) hx hb dL_law_697 (by decide) ?_
                                  refine W.widen (k := 200 + 158 * (k + 1)) (n := 4000 + 745 * (k + 1)) (by omega) (by omega) ?_
                                  exact ih (k + 1) (x3 + 6) M561 _ _ _ ls (by omega) hw h1 h2 hge hP hS (lv_sub hl [1, 2, 3, 0] rfl)
                                · replace hw := if_f h hw
                                  refine lv_iconst (pc := 567) (v := (0 : Int32)) hx hb dL_law_567 (by decide) ?_
                                  exact hw.elim
                              · replace hw := if_f hk12 hw
                                by_cases hk13 : ((xs x3.toNatClampNeg) &&& (31 : Int32)) = (13 : Int32)
                                · replace hw := if_t hk13 hw
                                  refine lv_tableIn (pc := 33) (tgt := 569) (off := 536) hx hb dL_law_33 (by rw [hk13]; decide) (by rw [hk13]; decide) (by rw [hk13]; rfl) (by decide) ?_
                                  refine lv_aload_n (pc := 569) hx hb dL_law_569 rfl (lv_at hl 1 rfl) ?_
                                  refine lv_aload_n (pc := 570) hx hb dL_law_570 rfl (lv_at hl 0 rfl) ?_
                                  refine lv_iload_n (pc := 571) hx hb dL_law_571 rfl (lv_at hl 3 rfl) ?_
                                  refine lv_iconst (pc := 572) (v := (1 : Int32)) hx hb dL_law_572 (by decide) ?_
                                  refine lv_iadd (pc := 573) hx hb dL_law_573 ?_
                                  refine va_sld (pc := 574) hx hb hX hbl hbA hS hw.1 dL_law_574 ?_
                                  replace hw := hw.2
                                  refine r_lVI (pc := 575) (rest := []) (As := [.int (xs (x3 + (1 : Int32)).toNatClampNeg)]) C hl.1 hP hS (hsb hge) (k_X8_answer l G (clo_lvs _) lvs_0 hw) lvs_0 rfl rfl mw_617 mw_618 mw_619 mw_56 mw_620 ⟨rfl, rfl⟩ hd_X8_answer rfl (by rw [h1]; rfl) ⟨Nat.le_of_ble_eq_true rfl, Nat.le_of_ble_eq_true rfl⟩ (Nat.le_of_ble_eq_true rfl) ⟨(by show 200 + 158 * k ≤ 760528; omega), (by show 4000 + 745 * k ≤ 6820663; omega)⟩ dL_law_575 (fun r575 M575 H locs hw hP hS => ?_)
                                  rw [← hw.1] at hP hge
                                  replace hw := hw.2
                                  refine lv_aload_n (pc := 578) hx hb dL_law_578 rfl (lv_at hl 2 rfl) ?_
                                  refine lv_aload_n (pc := 579) hx hb dL_law_579 rfl (lv_at hl 0 rfl) ?_
                                  refine lv_iload_n (pc := 580) hx hb dL_law_580 rfl (lv_at hl 3 rfl) ?_
                                  refine lv_iconst (pc := 581) (v := (1 : Int32)) hx hb dL_law_581 (by decide) ?_
                                  refine lv_iadd (pc := 582) hx hb dL_law_582 ?_
                                  refine va_sld (pc := 583) hx hb hX hbl hbA hS hw.1 dL_law_583 ?_
                                  replace hw := hw.2
                                  refine r_lVI (pc := 584) (rest := [.int r575]) (As := [.int (xs (x3 + (1 : Int32)).toNatClampNeg)]) C hl.1 hP hS (hsb hge) (k_X9_answer l G (clo_lvs _) (lvs_K lvs_md (by decide) (by decide)) hw) (lvs_K lvs_md (by decide) (by decide)) rfl rfl mw_944 mw_945 mw_946 mw_65 mw_947 ⟨rfl, rfl⟩ hd_X9_answer rfl (by rw [h2]; rfl) ⟨Nat.le_of_ble_eq_true rfl, Nat.le_of_ble_eq_true rfl⟩ (Nat.le_of_ble_eq_true rfl) ⟨(by show 200 + 158 * k ≤ 760528; omega), (by show 4000 + 745 * k ≤ 6820663; omega)⟩ dL_law_584 (fun r584 M584 H locs hw hP hS => ?_)
                                  rw [← hw.1] at hP hge
                                  replace hw := hw.2
                                  refine lv_icmp_eq (pc := 587) (tgt := 694) hx hb dL_law_587 (by decide) (fun h => ?_) (fun h => ?_)
                                  · replace hw := if_t h hw
                                    refine lv_iinc (pc := 694) (v := x3 + 6) (lv' := [(3, .int (x3 + 6)), (0, .ref b), (1, .ref a1), (2, .ref a2)]) hx hb dL_law_694 hl (k := 3) rfl rfl (by decide) rfl (fun ls hl => ?_)
                                    refine lv_goto (pc := 697) (tgt := 18) hx hb dL_law_697 (by decide) ?_
                                    refine W.widen (k := 200 + 158 * (k + 1)) (n := 4000 + 745 * (k + 1)) (by omega) (by omega) ?_
                                    exact ih (k + 1) (x3 + 6) M584 _ _ _ ls (by omega) hw h1 h2 hge hP hS (lv_sub hl [1, 2, 3, 0] rfl)
                                  · replace hw := if_f h hw
                                    refine lv_iconst (pc := 590) (v := (0 : Int32)) hx hb dL_law_590 (by decide) ?_
                                    exact hw.elim
                                · replace hw := if_f hk13 hw
                                  by_cases hk14 : ((xs x3.toNatClampNeg) &&& (31 : Int32)) = (14 : Int32)
                                  · replace hw := if_t hk14 hw
                                    refine lv_tableIn (pc := 33) (tgt := 592) (off := 559) hx hb dL_law_33 (by rw [hk14]; decide) (by rw [hk14]; decide) (by rw [hk14]; rfl) (by decide) ?_
                                    refine lv_aload_n (pc := 592) hx hb dL_law_592 rfl (lv_at hl 1 rfl) ?_
                                    refine lv_aload_n (pc := 593) hx hb dL_law_593 rfl (lv_at hl 0 rfl) ?_
                                    refine lv_iload_n (pc := 594) hx hb dL_law_594 rfl (lv_at hl 3 rfl) ?_
                                    refine lv_iconst (pc := 595) (v := (1 : Int32)) hx hb dL_law_595 (by decide) ?_
                                    refine lv_iadd (pc := 596) hx hb dL_law_596 ?_
                                    refine va_sld (pc := 597) hx hb hX hbl hbA hS hw.1 dL_law_597 ?_
                                    replace hw := hw.2
                                    refine lv_aload_n (pc := 598) hx hb dL_law_598 rfl (lv_at hl 0 rfl) ?_
                                    refine lv_iload_n (pc := 599) hx hb dL_law_599 rfl (lv_at hl 3 rfl) ?_
                                    refine lv_iconst (pc := 600) (v := (2 : Int32)) hx hb dL_law_600 (by decide) ?_
                                    refine lv_iadd (pc := 601) hx hb dL_law_601 ?_
                                    refine va_sld (pc := 602) hx hb hX hbl hbA hS hw.1 dL_law_602 ?_
                                    replace hw := hw.2
                                    refine r_lVI (pc := 603) (rest := []) (As := [.int (xs (x3 + (1 : Int32)).toNatClampNeg), .int (xs (x3 + (2 : Int32)).toNatClampNeg)]) C hl.1 hP hS (hsb hge) (k_X8_total l G (clo_lvs _) lvs_0 hw) lvs_0 rfl rfl mw_655 mw_656 mw_657 mw_56 mw_658 ⟨rfl, rfl⟩ hd_X8_total rfl (by rw [h1]; rfl) ⟨Nat.le_of_ble_eq_true rfl, Nat.le_of_ble_eq_true rfl⟩ (Nat.le_of_ble_eq_true rfl) ⟨(by show 200 + 158 * k ≤ 760528; omega), (by show 4000 + 745 * k ≤ 6820663; omega)⟩ dL_law_603 (fun r603 M603 H locs hw hP hS => ?_)
                                    rw [← hw.1] at hP hge
                                    replace hw := hw.2
                                    refine lv_aload_n (pc := 606) hx hb dL_law_606 rfl (lv_at hl 2 rfl) ?_
                                    refine lv_aload_n (pc := 607) hx hb dL_law_607 rfl (lv_at hl 0 rfl) ?_
                                    refine lv_iload_n (pc := 608) hx hb dL_law_608 rfl (lv_at hl 3 rfl) ?_
                                    refine lv_iconst (pc := 609) (v := (1 : Int32)) hx hb dL_law_609 (by decide) ?_
                                    refine lv_iadd (pc := 610) hx hb dL_law_610 ?_
                                    refine va_sld (pc := 611) hx hb hX hbl hbA hS hw.1 dL_law_611 ?_
                                    replace hw := hw.2
                                    refine lv_aload_n (pc := 612) hx hb dL_law_612 rfl (lv_at hl 0 rfl) ?_
                                    refine lv_iload_n (pc := 613) hx hb dL_law_613 rfl (lv_at hl 3 rfl) ?_
                                    refine lv_iconst (pc := 614) (v := (2 : Int32)) hx hb dL_law_614 (by decide) ?_
                                    refine lv_iadd (pc := 615) hx hb dL_law_615 ?_
                                    refine va_sld (pc := 616) hx hb hX hbl hbA hS hw.1 dL_law_616 ?_
                                    replace hw := hw.2
                                    refine r_lVI (pc := 617) (rest := [.int r603]) (As := [.int (xs (x3 + (1 : Int32)).toNatClampNeg), .int (xs (x3 + (2 : Int32)).toNatClampNeg)]) C hl.1 hP hS (hsb hge) (k_X9_total l G (clo_lvs _) (lvs_K lvs_md (by decide) (by decide)) hw) (lvs_K lvs_md (by decide) (by decide)) rfl rfl mw_952 mw_953 mw_954 mw_65 mw_955 ⟨rfl, rfl⟩ hd_X9_total rfl (by rw [h2]; rfl) ⟨Nat.le_of_ble_eq_true rfl, Nat.le_of_ble_eq_true rfl⟩ (Nat.le_of_ble_eq_true rfl) ⟨(by show 200 + 158 * k ≤ 760528; omega), (by show 4000 + 745 * k ≤ 6820663; omega)⟩ dL_law_617 (fun r617 M617 H locs hw hP hS => ?_)
                                    rw [← hw.1] at hP hge
                                    replace hw := hw.2
                                    refine lv_icmp_eq (pc := 620) (tgt := 694) hx hb dL_law_620 (by decide) (fun h => ?_) (fun h => ?_)
                                    · replace hw := if_t h hw
                                      refine lv_iinc (pc := 694) (v := x3 + 6) (lv' := [(3, .int (x3 + 6)), (0, .ref b), (1, .ref a1), (2, .ref a2)]) hx hb dL_law_694 hl (k := 3) rfl rfl (by decide) rfl (fun ls hl => ?_)
                                      refine lv_goto (pc := 697) (tgt := 18) hx hb dL_law_697 (by decide) ?_
                                      refine W.widen (k := 200 + 158 * (k + 1)) (n := 4000 + 745 * (k + 1)) (by omega) (by omega) ?_
                                      exact ih (k + 1) (x3 + 6) M617 _ _ _ ls (by omega) hw h1 h2 hge hP hS (lv_sub hl [1, 2, 3, 0] rfl)
                                    · replace hw := if_f h hw
                                      refine lv_iconst (pc := 623) (v := (0 : Int32)) hx hb dL_law_623 (by decide) ?_
                                      exact hw.elim
                                  · replace hw := if_f hk14 hw
                                    by_cases hk15 : ((xs x3.toNatClampNeg) &&& (31 : Int32)) = (15 : Int32)
                                    · replace hw := if_t hk15 hw
                                      refine lv_tableIn (pc := 33) (tgt := 625) (off := 592) hx hb dL_law_33 (by rw [hk15]; decide) (by rw [hk15]; decide) (by rw [hk15]; rfl) (by decide) ?_
                                      refine lv_aload_n (pc := 625) hx hb dL_law_625 rfl (lv_at hl 1 rfl) ?_
                                      refine lv_aload_n (pc := 626) hx hb dL_law_626 rfl (lv_at hl 0 rfl) ?_
                                      refine lv_iload_n (pc := 627) hx hb dL_law_627 rfl (lv_at hl 3 rfl) ?_
                                      refine lv_iconst (pc := 628) (v := (1 : Int32)) hx hb dL_law_628 (by decide) ?_
                                      refine lv_iadd (pc := 629) hx hb dL_law_629 ?_
                                      refine va_sld (pc := 630) hx hb hX hbl hbA hS hw.1 dL_law_630 ?_
                                      replace hw := hw.2
                                      refine r_image (pc := 631) (rest := []) C haK hl.1 hP hS hA hge hw mw_674 mw_675 mw_676 mw_56 mw_677 (by rw [h1]; rfl) ⟨Nat.le_of_ble_eq_true rfl, Nat.le_of_ble_eq_true rfl⟩ (Nat.le_of_ble_eq_true rfl) ⟨by show 200 + 158 * k + 158 ≤ 760528; omega, by show 4000 + 745 * k + 745 ≤ 6820663; omega⟩ dL_law_631 (fun r631 M631 ad H locs hw hxt hge hP hS => ?_)
                                      replace h1 := (hxt _ lvs_0).trans h1
                                      replace h2 := (hxt _ (lvs_K lvs_md (by decide) (by decide))).trans h2
                                      refine lv_aload_n (pc := 634) hx hb dL_law_634 rfl (lv_at hl 2 rfl) ?_
                                      refine lv_aload_n (pc := 635) hx hb dL_law_635 rfl (lv_at hl 0 rfl) ?_
                                      refine lv_iload_n (pc := 636) hx hb dL_law_636 rfl (lv_at hl 3 rfl) ?_
                                      refine lv_iconst (pc := 637) (v := (1 : Int32)) hx hb dL_law_637 (by decide) ?_
                                      refine lv_iadd (pc := 638) hx hb dL_law_638 ?_
                                      refine va_sld (pc := 639) hx hb hX hbl hbA hS hw.1 dL_law_639 ?_
                                      replace hw := hw.2
                                      refine r_lVI (pc := 640) (rest := [.int r631]) (As := [.int (xs (x3 + (1 : Int32)).toNatClampNeg)]) C hl.1 hP hS (hsb hge) (k_X9_image l G (clo_lvs _) (lvs_K lvs_md (by decide) (by decide)) hw) (lvs_K lvs_md (by decide) (by decide)) rfl rfl mw_956 mw_957 mw_958 mw_65 mw_959 ⟨rfl, rfl⟩ hd_X9_image rfl (by rw [h2]; rfl) ⟨Nat.le_of_ble_eq_true rfl, Nat.le_of_ble_eq_true rfl⟩ (Nat.le_of_ble_eq_true rfl) ⟨(by show 200 + 158 * k + 158 ≤ 760528; omega), (by show 4000 + 745 * k + 745 ≤ 6820663; omega)⟩ dL_law_640 (fun r640 M640 H locs hw hP hS => ?_)
                                      rw [← hw.1] at hP hge
                                      replace hw := hw.2
                                      refine lv_icmp_eq (pc := 643) (tgt := 694) hx hb dL_law_643 (by decide) (fun h => ?_) (fun h => ?_)
                                      · replace hw := if_t h hw
                                        refine lv_iinc (pc := 694) (v := x3 + 6) (lv' := [(3, .int (x3 + 6)), (0, .ref b), (1, .ref a1), (2, .ref a2)]) hx hb dL_law_694 hl (k := 3) rfl rfl (by decide) rfl (fun ls hl => ?_)
                                        refine lv_goto (pc := 697) (tgt := 18) hx hb dL_law_697 (by decide) ?_
                                        refine W.widen (k := 200 + 158 * (k + 1)) (n := 4000 + 745 * (k + 1)) (by omega) (by omega) ?_
                                        exact ih (k + 1) (x3 + 6) M640 _ _ _ ls (by omega) hw h1 h2 hge hP hS (lv_sub hl [1, 2, 3, 0] rfl)
                                      · replace hw := if_f h hw
                                        refine lv_iconst (pc := 646) (v := (0 : Int32)) hx hb dL_law_646 (by decide) ?_
                                        exact hw.elim
                                    · replace hw := if_f hk15 hw
                                      by_cases hk16 : ((xs x3.toNatClampNeg) &&& (31 : Int32)) = (16 : Int32)
                                      · replace hw := if_t hk16 hw
                                        refine lv_tableIn (pc := 33) (tgt := 648) (off := 615) hx hb dL_law_33 (by rw [hk16]; decide) (by rw [hk16]; decide) (by rw [hk16]; rfl) (by decide) ?_
                                        refine lv_aload_n (pc := 648) hx hb dL_law_648 rfl (lv_at hl 1 rfl) ?_
                                        refine lv_aload_n (pc := 649) hx hb dL_law_649 rfl (lv_at hl 0 rfl) ?_
                                        refine lv_iload_n (pc := 650) hx hb dL_law_650 rfl (lv_at hl 3 rfl) ?_
                                        refine lv_iconst (pc := 651) (v := (1 : Int32)) hx hb dL_law_651 (by decide) ?_
                                        refine lv_iadd (pc := 652) hx hb dL_law_652 ?_
                                        refine va_sld (pc := 653) hx hb hX hbl hbA hS hw.1 dL_law_653 ?_
                                        replace hw := hw.2
                                        refine r_lVI (pc := 654) (rest := []) (As := [.int (xs (x3 + (1 : Int32)).toNatClampNeg)]) C hl.1 hP hS (hsb hge) (k_X8_restore l G (clo_lvs _) lvs_0 lvs_img hw) lvs_0 rfl rfl mw_689 mw_690 mw_691 mw_56 mw_692 ⟨rfl, rfl⟩ hd_X8_restore rfl (by rw [h1]; rfl) ⟨Nat.le_of_ble_eq_true rfl, Nat.le_of_ble_eq_true rfl⟩ (Nat.le_of_ble_eq_true rfl) ⟨(by show 200 + 158 * k ≤ 760528; omega), (by show 4000 + 745 * k ≤ 6820663; omega)⟩ dL_law_654 (fun r654 M654 H locs hw hP hS => ?_)
                                        rw [← hw.1] at hP hge
                                        replace hw := hw.2
                                        refine lv_aload_n (pc := 657) hx hb dL_law_657 rfl (lv_at hl 2 rfl) ?_
                                        refine lv_aload_n (pc := 658) hx hb dL_law_658 rfl (lv_at hl 0 rfl) ?_
                                        refine lv_iload_n (pc := 659) hx hb dL_law_659 rfl (lv_at hl 3 rfl) ?_
                                        refine lv_iconst (pc := 660) (v := (1 : Int32)) hx hb dL_law_660 (by decide) ?_
                                        refine lv_iadd (pc := 661) hx hb dL_law_661 ?_
                                        refine va_sld (pc := 662) hx hb hX hbl hbA hS hw.1 dL_law_662 ?_
                                        replace hw := hw.2
                                        refine r_lVI (pc := 663) (rest := [.int r654]) (As := [.int (xs (x3 + (1 : Int32)).toNatClampNeg)]) C hl.1 hP hS (hsb hge) (k_X9_restore l G (clo_lvs _) (lvs_K lvs_md (by decide) (by decide)) hw) (lvs_K lvs_md (by decide) (by decide)) rfl rfl mw_960 mw_961 mw_962 mw_65 mw_963 ⟨rfl, rfl⟩ hd_X9_restore rfl (by rw [h2]; rfl) ⟨Nat.le_of_ble_eq_true rfl, Nat.le_of_ble_eq_true rfl⟩ (Nat.le_of_ble_eq_true rfl) ⟨(by show 200 + 158 * k ≤ 760528; omega), (by show 4000 + 745 * k ≤ 6820663; omega)⟩ dL_law_663 (fun r663 M663 H locs hw hP hS => ?_)
                                        rw [← hw.1] at hP hge
                                        replace hw := hw.2
                                        refine lv_icmp_eq (pc := 666) (tgt := 694) hx hb dL_law_666 (by decide) (fun h => ?_) (fun h => ?_)
                                        · replace hw := if_t h hw
                                          refine lv_iinc (pc := 694) (v := x3 + 6) (lv' := [(3, .int (x3 + 6)), (0, .ref b), (1, .ref a1), (2, .ref a2)]) hx hb dL_law_694 hl (k := 3) rfl rfl (by decide) rfl (fun ls hl => ?_)
                                          refine lv_goto (pc := 697) (tgt := 18) hx hb dL_law_697 (by decide) ?_
                                          refine W.widen (k := 200 + 158 * (k + 1)) (n := 4000 + 745 * (k + 1)) (by omega) (by omega) ?_
                                          exact ih (k + 1) (x3 + 6) M663 _ _ _ ls (by omega) hw h1 h2 hge hP hS (lv_sub hl [1, 2, 3, 0] rfl)
                                        · replace hw := if_f h hw
                                          refine lv_iconst (pc := 669) (v := (0 : Int32)) hx hb dL_law_669 (by decide) ?_
                                          exact hw.elim
                                      · replace hw := if_f hk16 hw
                                        by_cases hk17 : ((xs x3.toNatClampNeg) &&& (31 : Int32)) = (17 : Int32)
                                        · replace hw := if_t hk17 hw
                                          refine lv_tableIn (pc := 33) (tgt := 671) (off := 638) hx hb dL_law_33 (by rw [hk17]; decide) (by rw [hk17]; decide) (by rw [hk17]; rfl) (by decide) ?_
                                          refine lv_aload_n (pc := 671) hx hb dL_law_671 rfl (lv_at hl 1 rfl) ?_
                                          refine lv_aload_n (pc := 672) hx hb dL_law_672 rfl (lv_at hl 0 rfl) ?_
                                          refine lv_iload_n (pc := 673) hx hb dL_law_673 rfl (lv_at hl 3 rfl) ?_
                                          refine lv_iconst (pc := 674) (v := (1 : Int32)) hx hb dL_law_674 (by decide) ?_
                                          refine lv_iadd (pc := 675) hx hb dL_law_675 ?_
                                          refine va_sld (pc := 676) hx hb hX hbl hbA hS hw.1 dL_law_676 ?_
                                          replace hw := hw.2
                                          refine r_lVI (pc := 677) (rest := []) (As := [.int (xs (x3 + (1 : Int32)).toNatClampNeg)]) C hl.1 hP hS (hsb hge) (k_X8_told l G (clo_lvs _) lvs_0 hw) lvs_0 rfl rfl mw_693 mw_694 mw_695 mw_56 mw_696 ⟨rfl, rfl⟩ hd_X8_told rfl (by rw [h1]; rfl) ⟨Nat.le_of_ble_eq_true rfl, Nat.le_of_ble_eq_true rfl⟩ (Nat.le_of_ble_eq_true rfl) ⟨(by show 200 + 158 * k ≤ 760528; omega), (by show 4000 + 745 * k ≤ 6820663; omega)⟩ dL_law_677 (fun r677 M677 H locs hw hP hS => ?_)
                                          rw [← hw.1] at hP hge
                                          replace hw := hw.2
                                          refine lv_aload_n (pc := 680) hx hb dL_law_680 rfl (lv_at hl 2 rfl) ?_
                                          refine lv_aload_n (pc := 681) hx hb dL_law_681 rfl (lv_at hl 0 rfl) ?_
                                          refine lv_iload_n (pc := 682) hx hb dL_law_682 rfl (lv_at hl 3 rfl) ?_
                                          refine lv_iconst (pc := 683) (v := (1 : Int32)) hx hb dL_law_683 (by decide) ?_
                                          refine lv_iadd (pc := 684) hx hb dL_law_684 ?_
                                          refine va_sld (pc := 685) hx hb hX hbl hbA hS hw.1 dL_law_685 ?_
                                          replace hw := hw.2
                                          refine r_lVI (pc := 686) (rest := [.int r677]) (As := [.int (xs (x3 + (1 : Int32)).toNatClampNeg)]) C hl.1 hP hS (hsb hge) (k_X9_told l G (clo_lvs _) (lvs_K lvs_md (by decide) (by decide)) hw) (lvs_K lvs_md (by decide) (by decide)) rfl rfl mw_964 mw_965 mw_966 mw_65 mw_967 ⟨rfl, rfl⟩ hd_X9_told rfl (by rw [h2]; rfl) ⟨Nat.le_of_ble_eq_true rfl, Nat.le_of_ble_eq_true rfl⟩ (Nat.le_of_ble_eq_true rfl) ⟨(by show 200 + 158 * k ≤ 760528; omega), (by show 4000 + 745 * k ≤ 6820663; omega)⟩ dL_law_686 (fun r686 M686 H locs hw hP hS => ?_)
                                          rw [← hw.1] at hP hge
                                          replace hw := hw.2
                                          refine lv_icmp_eq (pc := 689) (tgt := 694) hx hb dL_law_689 (by decide) (fun h => ?_) (fun h => ?_)
                                          · replace hw := if_t h hw
                                            refine lv_iinc (pc := 694) (v := x3 + 6) (lv' := [(3, .int (x3 + 6)), (0, .ref b), (1, .ref a1), (2, .ref a2)]) hx hb dL_law_694 hl (k := 3) rfl rfl (by decide) rfl (fun ls hl => ?_)
                                            refine lv_goto (pc := 697) (tgt := 18) hx hb dL_law_697 (by decide) ?_
                                            refine W.widen (k := 200 + 158 * (k + 1)) (n := 4000 + 745 * (k + 1)) (by omega) (by omega) ?_
                                            exact ih (k + 1) (x3 + 6) M686 _ _ _ ls (by omega) hw h1 h2 hge hP hS (lv_sub hl [1, 2, 3, 0] rfl)
                                          · replace hw := if_f h hw
                                            refine lv_iconst (pc := 692) (v := (0 : Int32)) hx hb dL_law_692 (by decide) ?_
                                            exact hw.elim
                                        · replace hw := if_f hk17 hw
                                          refine lv_tableOut (pc := 33) (tgt := 694) hx hb dL_law_33 (by have q0 := lv_neT (a := 0) hk0 rfl; have q1 := lv_neT (a := 1) hk1 rfl; have q2 := lv_neT (a := 2) hk2 rfl; have q3 := lv_neT (a := 3) hk3 rfl; have q4 := lv_neT (a := 4) hk4 rfl; have q5 := lv_neT (a := 5) hk5 rfl; have q6 := lv_neT (a := 6) hk6 rfl; have q7 := lv_neT (a := 7) hk7 rfl; have q8 := lv_neT (a := 8) hk8 rfl; have q9 := lv_neT (a := 9) hk9 rfl; have q10 := lv_neT (a := 10) hk10 rfl; have q11 := lv_neT (a := 11) hk11 rfl; have q12 := lv_neT (a := 12) hk12 rfl; have q13 := lv_neT (a := 13) hk13 rfl; have q14 := lv_neT (a := 14) hk14 rfl; have q15 := lv_neT (a := 15) hk15 rfl; have q16 := lv_neT (a := 16) hk16 rfl; have q17 := lv_neT (a := 17) hk17 rfl; omega) (by decide) ?_
                                          refine lv_iinc (pc := 694) (v := x3 + 6) (lv' := [(3, .int (x3 + 6)), (0, .ref b), (1, .ref a1), (2, .ref a2)]) hx hb dL_law_694 hl (k := 3) rfl rfl (by decide) rfl (fun ls hl => ?_)
                                          refine lv_goto (pc := 697) (tgt := 18) hx hb dL_law_697 (by decide) ?_
                                          refine W.widen (k := 200 + 158 * (k + 1)) (n := 4000 + 745 * (k + 1)) (by omega) (by omega) ?_
                                          exact ih (k + 1) (x3 + 6) M _ _ _ ls (by omega) hw h1 h2 hge hP hS (lv_sub hl [1, 2, 3, 0] rfl)
