/-! THE CLAIM OUT OF ONE WALK OF THE LAW'S BODY. Your part is whole_start (and what it stands on); all else here is the same for every law, but numbers. -/
def R_law : String := "TesseraLaw"
def lw_P (b : Addr) (xs : List Int32) (args : Array Value) (s : State) : Prop := args = #[.ref b] ∧ s.IntsAt b xs ∧ xs.length ≤ 260 ∧ (Jvm.Cond.and given_1 narrow_1).before args s = true
def lw_Q (_ : Array Value) (s : State) (o : Outcome) (t : State) : Prop := o = .returned (some (.int 1)) ∧ Framed s o t [] 600130 7301080
def lw_Z (below : List Frame) (a : Array Value) (s : State) : State → Prop := fun t => ∃ o, t.status = .running ∧ Ended t below o ∧ lw_Q a s o t
/-- the law's own end, with 1 on the stack, nothing written that was there before, its room as the claim has it -/
theorem lw_ret {p : Program} {l : Launch} {e : Env} {s : State} {m : MethodId} {below : List Frame} {meth : Method} {c : Code} {b : Nat} (hx : p.tables.exec = Jvm.exec) (hb : c.code = code) (hr : meth.sig.returnType = ret) (hlocks : meth.locks = false) {pc : Nat} {H : Heap} {ls : Array Slot} (hdg : decode code pc = .ok (.ireturn, 1)) : W p l e room_1 s m #[Value.ref b] below meth c H [] 600130 7301080 (lw_Z below #[Value.ref b] s) (F0 m pc ls [.int 1]) := by
  intro T hT X
  obtain ⟨fs, hret, hrun, hended, hW, hframe⟩ := X.leave (v := some (.int 1)) (hlocks := hlocks) (fun h => by rw [hr] at h; cases h)
  have hmeth' : T.vm.method? m = some meth := X.method'
  refine ⟨T.setFrames fs, ?_, .returned (some (.int 1)), hrun, hended, rfl, ⟨_, rfl⟩, hW, hframe⟩
  jvm_step X.here [X.here.top, hx, hb, hdg, hmeth', hr, ret, narrow_b1]
  (try refine ⟨rfl, ?_⟩); (try refine ⟨rfl, ?_⟩)
  first | (intro acts; rw [hret _ acts rfl rfl rfl]) | rw [hret _ _ rfl rfl rfl]
  exact Steps.refl _
/-- what holds at the law's entry: the machine, the code, the tables' words (any of lw_tbl by 'hts w (by decide +kernel)'), the script of L ints xs at the cell b, what the Statement gives of the start (any of its parts by flat_of_before) -/
def lw_At (p : Program) (s : State) (m : MethodId) (meth : Method) (c : Code) (b L : Nat) (xs : Nat → Int32) : Prop :=
  p.tables.exec = Jvm.exec ∧ c.code = code ∧ meth.sig.returnType = ret ∧ c.maxLocals = 20 ∧ s.vm.findClass R_law = some m.cls ∧ (∀ w ∈ lw_tbl, w.before #[Value.ref b] s = true) ∧ va_X b L xs s s.heap ∧ b < s.heap.size ∧ meth.locks = false ∧ (Jvm.Cond.and given_1 narrow_1).before #[Value.ref b] s = true
theorem tw_0 : Cond.classLink RL 9 RX8 ∈ wsL_law0 := List.mem_of_getElem? (i := 0) (by decide +kernel)
theorem tw_1 : Cond.instantiable RX8 6 ∈ wsL_law0 := List.mem_of_getElem? (i := 1) (by decide +kernel)
theorem tw_5 : Cond.methodLink RL 11 yX8_init ∈ wsL_law0 := List.mem_of_getElem? (i := 5) (by decide +kernel)
theorem tw_6 : Cond.instanceMethod yX8_init ∈ wsL_law0 := List.mem_of_getElem? (i := 6) (by decide +kernel)
theorem tw_7 : Cond.code yX8_init cX8_init 6 none ∈ wsL_law0 := List.mem_of_getElem? (i := 7) (by decide +kernel)
theorem q_selP {C : String} {y z : MethodName} {s : State} {args : Array Value} {n : Nat} {x : MethodName} (hy : y.cls ≠ "java/lang/invoke/MethodHandle" ∧ y.cls ≠ "java/lang/invoke/VarHandle")
    (hins : (Cond.instantiable C n).before args s = true) (hpriv : (Cond.privateMethod y).before args s = true) (hinst : (Cond.instanceMethod y).before args s = true) (hz : (Cond.selects C x z).before args s = true) (hzc : z.cls = y.cls) : (Cond.selects C y y).before args s = true := by
  obtain ⟨c, k, hc, hk, -, hniab, -, -⟩ := Cond.instantiable_spec hins
  obtain ⟨mk, methM, hnamed, hmethM, -, -⟩ := Cond.instanceMethod_spec hinst
  have hfound : s.methodFound? y.cls y.name y.desc = some mk := State.methodFound?_of_named hnamed hy
  obtain ⟨c2, r2, m2, g1, g2, g3, g4, kz, g5, g6⟩ := Cond.selects_spec hz
  have hcls : mk.cls = m2.cls := by
    have h1 := findClass_of_methodNamed hnamed
    have h2 := findClass_of_methodNamed g3
    rw [hzc] at h2
    exact Option.some.inj (h1.symm.trans h2)
  have hsel : selectMethod {} s.vm c mk = .method mk := selectMethod_private hmethM (Cond.privateMethod_at hpriv mk methM hnamed hmethM)
  simp only [Cond.before, Cond.holds, Cond.value, hc, hfound, hnamed, hsel, hcls, g5]
  simp; exact g6
def LEFT : List Cond := [Cond.selects RX1 yX6_markTaken yX6_markTaken, Cond.selects RX3 yX6_markTaken yX6_markTaken, Cond.selects RX1 yX6_markTakenBy yX6_markTakenBy, Cond.selects RX3 yX6_markTakenBy yX6_markTakenBy]
set_option maxRecDepth 100000 in
theorem tc_1 : (wsL_law0_r1.all fun w => decide (w ∈ lw_tbl) || decide (w ∈ LEFT)) = true := by decide +kernel
set_option maxRecDepth 100000 in
theorem tc_2 : (wsL_law0_r2.all fun w => decide (w ∈ lw_tbl) || decide (w ∈ LEFT)) = true := by decide +kernel
set_option maxRecDepth 100000 in
theorem tc_3 : (wsL_law0_r3.all fun w => decide (w ∈ lw_tbl) || decide (w ∈ LEFT)) = true := by decide +kernel
set_option maxRecDepth 100000 in
theorem tc_4 : (wsL_law0_r4.all fun w => decide (w ∈ lw_tbl) || decide (w ∈ LEFT)) = true := by decide +kernel
set_option maxRecDepth 100000 in
theorem tc_5 : (wsL_law0_r5.all fun w => decide (w ∈ lw_tbl) || decide (w ∈ LEFT)) = true := by decide +kernel
set_option maxRecDepth 100000 in
theorem tc_6 : (wsL_law0_r6.all fun w => decide (w ∈ lw_tbl) || decide (w ∈ LEFT)) = true := by decide +kernel
set_option maxRecDepth 100000 in
theorem tc_7 : (wsL_law0_r7.all fun w => decide (w ∈ lw_tbl) || decide (w ∈ LEFT)) = true := by decide +kernel
set_option maxRecDepth 100000 in
theorem tc_8 : (wsL_law0_r8.all fun w => decide (w ∈ lw_tbl) || decide (w ∈ LEFT)) = true := by decide +kernel
set_option maxRecDepth 100000 in
theorem tc_9 : (wsL_law0_r9.all fun w => decide (w ∈ lw_tbl) || decide (w ∈ LEFT)) = true := by decide +kernel
set_option maxRecDepth 100000 in
theorem tc_10 : (wsL_law0_r10.all fun w => decide (w ∈ lw_tbl) || decide (w ∈ LEFT)) = true := by decide +kernel
set_option maxRecDepth 100000 in
theorem tc_11 : (wsL_law0_r11.all fun w => decide (w ∈ lw_tbl) || decide (w ∈ LEFT)) = true := by decide +kernel
set_option maxRecDepth 100000 in
theorem tc_12 : (wsL_law0_r12.all fun w => decide (w ∈ lw_tbl) || decide (w ∈ LEFT)) = true := by decide +kernel
set_option maxRecDepth 100000 in
theorem tc_13 : (wsL_law0_r13.all fun w => decide (w ∈ lw_tbl) || decide (w ∈ LEFT)) = true := by decide +kernel
set_option maxRecDepth 100000 in
theorem tc_14 : (wsL_law0_r14.all fun w => decide (w ∈ lw_tbl) || decide (w ∈ LEFT)) = true := by decide +kernel
set_option maxRecDepth 100000 in
theorem tc_15 : (wsL_law0_r15.all fun w => decide (w ∈ lw_tbl) || decide (w ∈ LEFT)) = true := by decide +kernel
set_option maxRecDepth 100000 in
theorem tc_16 : (wsL_law0_r16.all fun w => decide (w ∈ lw_tbl) || decide (w ∈ LEFT)) = true := by decide +kernel
set_option maxRecDepth 100000 in
theorem tc_17 : (wsL_law0_r17.all fun w => decide (w ∈ lw_tbl) || decide (w ∈ LEFT)) = true := by decide +kernel
set_option maxRecDepth 100000 in
theorem tc_18 : (wsL_law0_r18.all fun w => decide (w ∈ lw_tbl) || decide (w ∈ LEFT)) = true := by decide +kernel
set_option maxRecDepth 100000 in
theorem tc_19 : (wsL_law0_r19.all fun w => decide (w ∈ lw_tbl) || decide (w ∈ LEFT)) = true := by decide +kernel
set_option maxRecDepth 100000 in
theorem tc_20 : (wsL_law0_r20.all fun w => decide (w ∈ lw_tbl) || decide (w ∈ LEFT)) = true := by decide +kernel
set_option maxRecDepth 100000 in
theorem tc_21 : (wsL_law0_r21.all fun w => decide (w ∈ lw_tbl) || decide (w ∈ LEFT)) = true := by decide +kernel
set_option maxRecDepth 100000 in
theorem tc_22 : (wsL_law0_r22.all fun w => decide (w ∈ lw_tbl) || decide (w ∈ LEFT)) = true := by decide +kernel
set_option maxRecDepth 100000 in
theorem tc_23 : (wsL_law0_r23.all fun w => decide (w ∈ lw_tbl) || decide (w ∈ LEFT)) = true := by decide +kernel
set_option maxRecDepth 100000 in
theorem tc_24 : (wsL_law0_r24.all fun w => decide (w ∈ lw_tbl) || decide (w ∈ LEFT)) = true := by decide +kernel
set_option maxRecDepth 100000 in
theorem tc_25 : (wsL_law0_r25.all fun w => decide (w ∈ lw_tbl) || decide (w ∈ LEFT)) = true := by decide +kernel
set_option maxRecDepth 100000 in
theorem tc_26 : (wsL_law0_r26.all fun w => decide (w ∈ lw_tbl) || decide (w ∈ LEFT)) = true := by decide +kernel
set_option maxRecDepth 100000 in
theorem tc_27 : (wsL_law0_r27.all fun w => decide (w ∈ lw_tbl) || decide (w ∈ LEFT)) = true := by decide +kernel
set_option maxRecDepth 100000 in
theorem tc_28 : (wsL_law0_r28.all fun w => decide (w ∈ lw_tbl) || decide (w ∈ LEFT)) = true := by decide +kernel
set_option maxRecDepth 100000 in
theorem tc_29 : (wsL_law0_r29.all fun w => decide (w ∈ lw_tbl) || decide (w ∈ LEFT)) = true := by decide +kernel
set_option maxRecDepth 100000 in
theorem tc_30 : (wsL_law0_r30.all fun w => decide (w ∈ lw_tbl) || decide (w ∈ LEFT)) = true := by decide +kernel
set_option maxRecDepth 100000 in
theorem tc_31 : (wsL_law0_r31.all fun w => decide (w ∈ lw_tbl) || decide (w ∈ LEFT)) = true := by decide +kernel
set_option maxRecDepth 100000 in
theorem tc_32 : (wsL_law0_r32.all fun w => decide (w ∈ lw_tbl) || decide (w ∈ LEFT)) = true := by decide +kernel
set_option maxRecDepth 100000 in
theorem tc_33 : (wsL_law0_r33.all fun w => decide (w ∈ lw_tbl) || decide (w ∈ LEFT)) = true := by decide +kernel
set_option maxRecDepth 100000 in
theorem tc_34 : (wsL_law0_r34.all fun w => decide (w ∈ lw_tbl) || decide (w ∈ LEFT)) = true := by decide +kernel
set_option maxRecDepth 100000 in
theorem tc_35 : (wsL_law0_r35.all fun w => decide (w ∈ lw_tbl) || decide (w ∈ LEFT)) = true := by decide +kernel
set_option maxRecDepth 100000 in
theorem tc_36 : (wsL_law0_r36.all fun w => decide (w ∈ lw_tbl) || decide (w ∈ LEFT)) = true := by decide +kernel
set_option maxRecDepth 100000 in
theorem tc_37 : (wsL_law0_r37.all fun w => decide (w ∈ lw_tbl) || decide (w ∈ LEFT)) = true := by decide +kernel
set_option maxRecDepth 100000 in
theorem tcl_wsX80 : (wsX80.all fun w => decide (w ∈ lw_tbl) || decide (w ∈ LEFT)) = true := by decide +kernel
set_option maxRecDepth 100000 in
theorem tcl_wsX20 : (wsX20.all fun w => decide (w ∈ lw_tbl) || decide (w ∈ LEFT)) = true := by decide +kernel
set_option maxRecDepth 100000 in
theorem tcl_wsX40 : (wsX40.all fun w => decide (w ∈ lw_tbl) || decide (w ∈ LEFT)) = true := by decide +kernel
set_option maxRecDepth 100000 in
theorem tcl_wsX30 : (wsX30.all fun w => decide (w ∈ lw_tbl) || decide (w ∈ LEFT)) = true := by decide +kernel
set_option maxRecDepth 100000 in
theorem tcl_wsX10 : (wsX10.all fun w => decide (w ∈ lw_tbl) || decide (w ∈ LEFT)) = true := by decide +kernel
set_option maxRecDepth 100000 in
theorem tcl_wsX00 : (wsX00.all fun w => decide (w ∈ lw_tbl) || decide (w ∈ LEFT)) = true := by decide +kernel
set_option maxRecDepth 100000 in
theorem tcl_wsX50 : (wsX50.all fun w => decide (w ∈ lw_tbl) || decide (w ∈ LEFT)) = true := by decide +kernel
set_option maxRecDepth 100000 in
theorem tbl_in : (wsL_law0.all fun w => decide (w ∈ lw_tbl) || decide (w ∈ LEFT)) = true := by
  simp only [wsL_law0, List.all_append, List.all_nil, tc_1, tc_2, tc_3, tc_4, tc_5, tc_6, tc_7, tc_8, tc_9, tc_10, tc_11, tc_12, tc_13, tc_14, tc_15, tc_16, tc_17, tc_18, tc_19, tc_20, tc_21, tc_22, tc_23, tc_24, tc_25, tc_26, tc_27, tc_28, tc_29, tc_30, tc_31, tc_32, tc_33, tc_34, tc_35, tc_36, tc_37, tcl_wsX80, tcl_wsX20, tcl_wsX40, tcl_wsX30, tcl_wsX10, tcl_wsX00, tcl_wsX50, Bool.and_self]
set_option maxRecDepth 100000 in
theorem tbl_all {s : State} {args : Array Value} (hts : ∀ w ∈ lw_tbl, w.before args s = true) : ∀ w ∈ wsL_law0, w.before args s = true := by
  intro w hw
  have h := List.all_eq_true.mp tbl_in w hw
  simp only [Bool.or_eq_true, decide_eq_true_eq] at h
  rcases h with h | h
  · exact hts w h
  · have hC : (Cond.instantiable RX1 17).before args s = true := hts _ (by decide +kernel)
    have hM : (Cond.instantiable RX3 15).before args s = true := hts _ (by decide +kernel)
    have p1 : (Cond.privateMethod yX6_markTaken).before args s = true := hts _ (by decide +kernel)
    have p2 : (Cond.privateMethod yX6_markTakenBy).before args s = true := hts _ (by decide +kernel)
    have i1 : (Cond.instanceMethod yX6_markTaken).before args s = true := hts _ (by decide +kernel)
    have i2 : (Cond.instanceMethod yX6_markTakenBy).before args s = true := hts _ (by decide +kernel)
    have z1 : (Cond.selects RX1 ⟨"Tessera$Counting", "firstPlaceFor", "(I)I"⟩ yX6_firstPlaceFor).before args s = true := hts _ (by decide +kernel)
    have z3 : (Cond.selects RX3 ⟨"Tessera$Marking", "firstPlaceFor", "(I)I"⟩ yX6_firstPlaceFor).before args s = true := hts _ (by decide +kernel)
    simp only [LEFT, List.mem_cons, List.not_mem_nil, or_false] at h
    rcases h with rfl | rfl | rfl | rfl
    · exact q_selP (by decide +kernel) hC p1 i1 z1 rfl
    · exact q_selP (by decide +kernel) hM p1 i1 z3 rfl
    · exact q_selP (by decide +kernel) hC p2 i2 z1 rfl
    · exact q_selP (by decide +kernel) hM p2 i2 z3 rfl
theorem tbl_NW {s : State} {args : Array Value} (hts : ∀ w ∈ lw_tbl, w.before args s = true) : ∀ x ∈ NWs, va_Nw (.declares x) s := by
  have h : (NWs.all fun x => decide (Cond.declares x ∈ lw_tbl)) = true := by decide +kernel
  intro x hx
  exact va_Nw.of rfl (hts _ (of_decide_eq_true (List.all_eq_true.mp h x hx)))
theorem tbl_EX {s : State} {args : Array Value} (hts : ∀ w ∈ lw_tbl, w.before args s = true) : EX s := by
  refine ⟨?_, ?_, ?_⟩
  · have h : (Cond.arrayOver (.object "Tessera$Store")).before args s = true := hts _ (by decide +kernel)
    exact va_AO.of h
  · have h : (["Tessera$Copying", "Tessera$Nursery", "Tessera$Marking", "Tessera$Counting"].all fun x => decide (Cond.castable x "Tessera$Store" ∈ lw_tbl)) = true := by decide +kernel
    intro x hx
    exact va_Nw.of rfl (hts _ (of_decide_eq_true (List.all_eq_true.mp h x hx)))
  · have h : (NSTs.all fun q => decide (Cond.methodLinkNest q.1 q.2 yX5_init "Tessera" ∈ lw_tbl)) = true := by decide +kernel
    intro x hx
    exact va_Nw.of rfl (hts _ (of_decide_eq_true (List.all_eq_true.mp h x hx)))
