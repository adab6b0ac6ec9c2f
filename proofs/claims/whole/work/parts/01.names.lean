-- ===== PART A: goes FIRST, ahead of the names: the tables' words, and 'selects' of the private methods out of them =====
/-- a private method of a class that the tables say can be made, by its rows of tables_1 -/
def lw_okq (q : MethodName × Nat) : Prop := (q.1.cls ≠ "java/lang/invoke/MethodHandle" ∧ q.1.cls ≠ "java/lang/invoke/VarHandle") ∧ Cond.instantiable q.1.cls q.2 ∈ tables_1 ∧ Cond.privateMethod q.1 ∈ tables_1 ∧ Cond.instanceMethod q.1 ∈ tables_1
theorem lw_p0 : lw_okq (⟨"StreetSides", "isSide", "(II)Z"⟩, 4) := ⟨⟨by decide +kernel, by decide +kernel⟩, List.mem_of_getElem? (i := 12) (by decide +kernel), List.mem_of_getElem? (i := 272) (by decide +kernel), List.mem_of_getElem? (i := 273) (by decide +kernel)⟩
theorem lw_p1 : lw_okq (⟨"StreetSides$Search", "forget", "()V"⟩, 6) := ⟨⟨by decide +kernel, by decide +kernel⟩, List.mem_of_getElem? (i := 116) (by decide +kernel), List.mem_of_getElem? (i := 288) (by decide +kernel), List.mem_of_getElem? (i := 289) (by decide +kernel)⟩
theorem lw_p2 : lw_okq (⟨"StreetSides$Search", "soonestUnsettled", "(I)I"⟩, 6) := ⟨⟨by decide +kernel, by decide +kernel⟩, List.mem_of_getElem? (i := 116) (by decide +kernel), List.mem_of_getElem? (i := 297) (by decide +kernel), List.mem_of_getElem? (i := 298) (by decide +kernel)⟩
theorem lw_p3 : lw_okq (⟨"StreetSides$Search", "goOnFrom", "(LStreetSides$Net;I)V"⟩, 6) := ⟨⟨by decide +kernel, by decide +kernel⟩, List.mem_of_getElem? (i := 116) (by decide +kernel), List.mem_of_getElem? (i := 301) (by decide +kernel), List.mem_of_getElem? (i := 302) (by decide +kernel)⟩
theorem lw_p4 : lw_okq (⟨"StreetSides$Net", "canBeDriven", "(I)Z"⟩, 5) := ⟨⟨by decide +kernel, by decide +kernel⟩, List.mem_of_getElem? (i := 20) (by decide +kernel), List.mem_of_getElem? (i := 324) (by decide +kernel), List.mem_of_getElem? (i := 325) (by decide +kernel)⟩
theorem lw_p5 : lw_okq (⟨"StreetSides$Streets", "isClosed", "(II)Z"⟩, 9) := ⟨⟨by decide +kernel, by decide +kernel⟩, List.mem_of_getElem? (i := 47) (by decide +kernel), List.mem_of_getElem? (i := 354) (by decide +kernel), List.mem_of_getElem? (i := 355) (by decide +kernel)⟩
theorem lw_p6 : lw_okq (⟨"StreetSides$Search", "firstLeading", "(LStreetSides$Net;I)I"⟩, 6) := ⟨⟨by decide +kernel, by decide +kernel⟩, List.mem_of_getElem? (i := 116) (by decide +kernel), List.mem_of_getElem? (i := 373) (by decide +kernel), List.mem_of_getElem? (i := 374) (by decide +kernel)⟩
theorem lw_p7 : lw_okq (⟨"StreetSides$Search", "stepOnFrom", "(LStreetSides$Net;I)V"⟩, 6) := ⟨⟨by decide +kernel, by decide +kernel⟩, List.mem_of_getElem? (i := 116) (by decide +kernel), List.mem_of_getElem? (i := 419) (by decide +kernel), List.mem_of_getElem? (i := 420) (by decide +kernel)⟩
theorem lw_p8 : lw_okq (⟨"StreetSides$Net", "merge", "(II)V"⟩, 5) := ⟨⟨by decide +kernel, by decide +kernel⟩, List.mem_of_getElem? (i := 20) (by decide +kernel), List.mem_of_getElem? (i := 473) (by decide +kernel), List.mem_of_getElem? (i := 474) (by decide +kernel)⟩
theorem lw_p9 : lw_okq (⟨"StreetSidesModel", "isNode", "(I)Z"⟩, 28) := ⟨⟨by decide +kernel, by decide +kernel⟩, List.mem_of_getElem? (i := 490) (by decide +kernel), List.mem_of_getElem? (i := 594) (by decide +kernel), List.mem_of_getElem? (i := 595) (by decide +kernel)⟩
theorem lw_p10 : lw_okq (⟨"StreetSidesModel", "isStreet", "(I)Z"⟩, 28) := ⟨⟨by decide +kernel, by decide +kernel⟩, List.mem_of_getElem? (i := 490) (by decide +kernel), List.mem_of_getElem? (i := 606) (by decide +kernel), List.mem_of_getElem? (i := 607) (by decide +kernel)⟩
theorem lw_p11 : lw_okq (⟨"StreetSidesModel", "isSide", "(II)Z"⟩, 28) := ⟨⟨by decide +kernel, by decide +kernel⟩, List.mem_of_getElem? (i := 490) (by decide +kernel), List.mem_of_getElem? (i := 632) (by decide +kernel), List.mem_of_getElem? (i := 633) (by decide +kernel)⟩
theorem lw_p12 : lw_okq (⟨"StreetSidesModel", "settle", "(II)V"⟩, 28) := ⟨⟨by decide +kernel, by decide +kernel⟩, List.mem_of_getElem? (i := 490) (by decide +kernel), List.mem_of_getElem? (i := 637) (by decide +kernel), List.mem_of_getElem? (i := 638) (by decide +kernel)⟩
theorem lw_p13 : lw_okq (⟨"StreetSidesModel", "goesInto", "(II)Z"⟩, 28) := ⟨⟨by decide +kernel, by decide +kernel⟩, List.mem_of_getElem? (i := 490) (by decide +kernel), List.mem_of_getElem? (i := 641) (by decide +kernel), List.mem_of_getElem? (i := 642) (by decide +kernel)⟩
theorem lw_p14 : lw_okq (⟨"StreetSidesModel", "canBeDriven", "(I)Z"⟩, 28) := ⟨⟨by decide +kernel, by decide +kernel⟩, List.mem_of_getElem? (i := 490) (by decide +kernel), List.mem_of_getElem? (i := 645) (by decide +kernel), List.mem_of_getElem? (i := 646) (by decide +kernel)⟩
theorem lw_p15 : lw_okq (⟨"StreetSidesModel", "beginOf", "(I)I"⟩, 28) := ⟨⟨by decide +kernel, by decide +kernel⟩, List.mem_of_getElem? (i := 490) (by decide +kernel), List.mem_of_getElem? (i := 649) (by decide +kernel), List.mem_of_getElem? (i := 650) (by decide +kernel)⟩
def lw_privs_1 : List (MethodName × Nat) := [(⟨"StreetSides", "isSide", "(II)Z"⟩, 4), (⟨"StreetSides$Search", "forget", "()V"⟩, 6), (⟨"StreetSides$Search", "soonestUnsettled", "(I)I"⟩, 6), (⟨"StreetSides$Search", "goOnFrom", "(LStreetSides$Net;I)V"⟩, 6), (⟨"StreetSides$Net", "canBeDriven", "(I)Z"⟩, 5), (⟨"StreetSides$Streets", "isClosed", "(II)Z"⟩, 9), (⟨"StreetSides$Search", "firstLeading", "(LStreetSides$Net;I)I"⟩, 6), (⟨"StreetSides$Search", "stepOnFrom", "(LStreetSides$Net;I)V"⟩, 6), (⟨"StreetSides$Net", "merge", "(II)V"⟩, 5), (⟨"StreetSidesModel", "isNode", "(I)Z"⟩, 28), (⟨"StreetSidesModel", "isStreet", "(I)Z"⟩, 28), (⟨"StreetSidesModel", "isSide", "(II)Z"⟩, 28), (⟨"StreetSidesModel", "settle", "(II)V"⟩, 28), (⟨"StreetSidesModel", "goesInto", "(II)Z"⟩, 28), (⟨"StreetSidesModel", "canBeDriven", "(I)Z"⟩, 28), (⟨"StreetSidesModel", "beginOf", "(I)I"⟩, 28)]
theorem lw_r1 : ∀ q ∈ lw_privs_1, lw_okq q := List.forall_mem_cons.mpr ⟨lw_p0, List.forall_mem_cons.mpr ⟨lw_p1, List.forall_mem_cons.mpr ⟨lw_p2, List.forall_mem_cons.mpr ⟨lw_p3, List.forall_mem_cons.mpr ⟨lw_p4, List.forall_mem_cons.mpr ⟨lw_p5, List.forall_mem_cons.mpr ⟨lw_p6, List.forall_mem_cons.mpr ⟨lw_p7, List.forall_mem_cons.mpr ⟨lw_p8, List.forall_mem_cons.mpr ⟨lw_p9, List.forall_mem_cons.mpr ⟨lw_p10, List.forall_mem_cons.mpr ⟨lw_p11, List.forall_mem_cons.mpr ⟨lw_p12, List.forall_mem_cons.mpr ⟨lw_p13, List.forall_mem_cons.mpr ⟨lw_p14, List.forall_mem_cons.mpr ⟨lw_p15, fun _ h => absurd h List.not_mem_nil⟩⟩⟩⟩⟩⟩⟩⟩⟩⟩⟩⟩⟩⟩⟩⟩
theorem lw_p16 : lw_okq (⟨"StreetSidesModel", "endOf", "(I)I"⟩, 28) := ⟨⟨by decide +kernel, by decide +kernel⟩, List.mem_of_getElem? (i := 490) (by decide +kernel), List.mem_of_getElem? (i := 653) (by decide +kernel), List.mem_of_getElem? (i := 654) (by decide +kernel)⟩
theorem lw_p17 : lw_okq (⟨"StreetSidesModel", "begun", "(III)I"⟩, 28) := ⟨⟨by decide +kernel, by decide +kernel⟩, List.mem_of_getElem? (i := 490) (by decide +kernel), List.mem_of_getElem? (i := 657) (by decide +kernel), List.mem_of_getElem? (i := 658) (by decide +kernel)⟩
theorem lw_p18 : lw_okq (⟨"StreetSidesModel", "isStep", "(II)Z"⟩, 28) := ⟨⟨by decide +kernel, by decide +kernel⟩, List.mem_of_getElem? (i := 490) (by decide +kernel), List.mem_of_getElem? (i := 661) (by decide +kernel), List.mem_of_getElem? (i := 662) (by decide +kernel)⟩
def lw_privs_2 : List (MethodName × Nat) := [(⟨"StreetSidesModel", "endOf", "(I)I"⟩, 28), (⟨"StreetSidesModel", "begun", "(III)I"⟩, 28), (⟨"StreetSidesModel", "isStep", "(II)Z"⟩, 28)]
theorem lw_r2 : ∀ q ∈ lw_privs_2, lw_okq q := List.forall_mem_cons.mpr ⟨lw_p16, List.forall_mem_cons.mpr ⟨lw_p17, List.forall_mem_cons.mpr ⟨lw_p18, fun _ h => absurd h List.not_mem_nil⟩⟩⟩
def lw_privs : List (MethodName × Nat) := lw_privs_1 ++ (lw_privs_2)
def lw_tbl : List Cond := k2_sels lw_privs ++ tables_1
theorem lw_privs_ok : ∀ q ∈ lw_privs, lw_okq q := by
  show ∀ q ∈ lw_privs_1 ++ (lw_privs_2), lw_okq q
  exact List.forall_mem_append.mpr ⟨lw_r1, lw_r2⟩
/-! THE CLAIM OUT OF ONE WALK OF THE LAW'S BODY. Your part is whole_start (and what it stands on); all else here is the same for every law, but numbers. -/
def R_law : String := "StreetSidesLaw"
def lw_P (b : Addr) (xs : List Int32) (args : Array Value) (s : State) : Prop := args = #[.ref b] ∧ s.IntsAt b xs ∧ xs.length ≤ 3072 ∧ (Jvm.Cond.and given_1 narrow_1).before args s = true
def lw_Q (_ : Array Value) (s : State) (o : Outcome) (t : State) : Prop := o = .returned (some (.int 1)) ∧ Framed s o t [] 54 5713
def lw_Z (below : List Frame) (a : Array Value) (s : State) : State → Prop := fun t => ∃ o, t.status = .running ∧ Ended t below o ∧ lw_Q a s o t
/-- the law's own end, with 1 on the stack, nothing written that was there before, its room as the claim has it -/
theorem lw_ret {p : Program} {l : Launch} {e : Env} {s : State} {m : MethodId} {below : List Frame} {meth : Method} {c : Code} {b : Nat} (hx : p.tables.exec = Jvm.exec) (hb : c.code = code) (hr : meth.sig.returnType = ret) (hlocks : meth.locks = false) {pc : Nat} {H : Heap} {ls : Array Slot} (hdg : decode code pc = .ok (.ireturn, 1)) : W p l e room_1 s m #[Value.ref b] below meth c H [] 54 5713 (lw_Z below #[Value.ref b] s) (F0 m pc ls [.int 1]) := by
  intro T hT X
  obtain ⟨fs, hret, hrun, hended, hW, hframe⟩ := X.leave (v := some (.int 1)) (hlocks := hlocks) (fun h => by rw [hr] at h; cases h)
  have hmeth' : T.vm.method? m = some meth := X.method'
  refine ⟨T.setFrames fs, ?_, .returned (some (.int 1)), hrun, hended, rfl, ⟨_, rfl⟩, hW, hframe⟩
  jvm_step X.here [X.here.top, hx, hb, hdg, hmeth', hr, ret, narrow_b1]
  (try refine ⟨rfl, ?_⟩); (try refine ⟨rfl, ?_⟩)
  first | (intro acts; rw [hret _ acts rfl rfl rfl]) | rw [hret _ _ rfl rfl rfl]
  exact Steps.refl _
/-- what holds at the law's entry: the machine, the code, the tables' words (any of lw_tbl by 'hts w (by decide +kernel)'), the script of L ints xs at the cell b, what the Statement gives of the start (any of its parts by flat_of_before) -/
def lw_At (p : Program) (s : State) (m : MethodId) (meth : Method) (c : Code) (b L : Nat) (xs : Nat → Int32) : Prop :=
  p.tables.exec = Jvm.exec ∧ c.code = code ∧ meth.sig.returnType = ret ∧ c.maxLocals = 4 ∧ s.vm.findClass R_law = some m.cls ∧ (∀ w ∈ lw_tbl, w.before #[Value.ref b] s = true) ∧ va_X b L xs s s.heap ∧ b < s.heap.size ∧ meth.locks = false ∧ (Jvm.Cond.and given_1 narrow_1).before #[Value.ref b] s = true
def tbG : List Cond := lw_tbl.filter goodWord
theorem tb_mem {w : Cond} (i : Nat) (h : lw_tbl[i]? = some w) (g : goodWord w = true) : w ∈ tbG := List.mem_filter.mpr ⟨List.mem_of_getElem? h, g⟩
theorem tb_hts {a : Array Value} {s : State} (h : ∀ w ∈ lw_tbl, w.before a s = true) : ∀ w ∈ tbG, w.before a s = true := fun w hw => h w (List.mem_filter.mp hw).1
theorem tb_ok {w : Cond} (h : w ∈ tbG) : w ∈ tbG ∧ ((w.onTables && w.keeps) = true ∨ ∃ ty, w = .arrayClass ty) := ⟨h, good_of_word (List.mem_filter.mp h).2⟩
theorem tb_V {own C : String} {idx : Nat} {y : MethodName} {k : Cond} (h1 : Cond.methodLink own idx y ∈ tbG) (h2 : Cond.instanceMethod y ∈ tbG) (h3 : Cond.selects C y y ∈ tbG) (h4 : Cond.initialized C ∈ tbG) (h5 : k ∈ tbG) : GoodIn tbG (wsV own idx C y (k :: tbG)) := by
  intro w hw
  refine tb_ok ?_
  simp only [wsV, List.cons_append, List.nil_append, List.mem_cons] at hw
  rcases hw with rfl | rfl | rfl | rfl | rfl | h
  · exact h1
  · exact h2
  · exact h3
  · exact h4
  · exact h5
  · exact h
theorem tb_S {own : String} {idx : Nat} {y : MethodName} {k : Cond} (h1 : Cond.methodLink own idx y ∈ tbG) (h2 : Cond.static y ∈ tbG) (h4 : Cond.initialized own ∈ tbG) (h5 : k ∈ tbG) : GoodIn tbG (wsS own idx y (k :: tbG)) := by
  intro w hw
  refine tb_ok ?_
  simp only [wsS, List.cons_append, List.nil_append, List.mem_cons] at hw
  rcases hw with rfl | rfl | rfl | rfl | h
  · exact h1
  · exact h2
  · exact h4
  · exact h5
  · exact h
theorem tb_K {k : Cond} (h5 : k ∈ tbG) : GoodIn tbG (k :: tbG) := by
  intro w hw
  refine tb_ok ?_
  rcases List.mem_cons.mp hw with rfl | h
  · exact h5
  · exact h
theorem tb_0 : Cond.selects "StreetSides" ⟨"StreetSides", "isSide", "(II)Z"⟩ ⟨"StreetSides", "isSide", "(II)Z"⟩ ∈ tbG := tb_mem 0 (by decide +kernel) (by decide +kernel)
theorem tb_1 : Cond.selects "StreetSides$Search" ⟨"StreetSides$Search", "forget", "()V"⟩ ⟨"StreetSides$Search", "forget", "()V"⟩ ∈ tbG := tb_mem 1 (by decide +kernel) (by decide +kernel)
theorem tb_2 : Cond.selects "StreetSides$Search" ⟨"StreetSides$Search", "soonestUnsettled", "(I)I"⟩ ⟨"StreetSides$Search", "soonestUnsettled", "(I)I"⟩ ∈ tbG := tb_mem 2 (by decide +kernel) (by decide +kernel)
theorem tb_3 : Cond.selects "StreetSides$Search" ⟨"StreetSides$Search", "goOnFrom", "(LStreetSides$Net;I)V"⟩ ⟨"StreetSides$Search", "goOnFrom", "(LStreetSides$Net;I)V"⟩ ∈ tbG := tb_mem 3 (by decide +kernel) (by decide +kernel)
theorem tb_4 : Cond.selects "StreetSides$Net" ⟨"StreetSides$Net", "canBeDriven", "(I)Z"⟩ ⟨"StreetSides$Net", "canBeDriven", "(I)Z"⟩ ∈ tbG := tb_mem 4 (by decide +kernel) (by decide +kernel)
theorem tb_5 : Cond.selects "StreetSides$Streets" ⟨"StreetSides$Streets", "isClosed", "(II)Z"⟩ ⟨"StreetSides$Streets", "isClosed", "(II)Z"⟩ ∈ tbG := tb_mem 5 (by decide +kernel) (by decide +kernel)
theorem tb_6 : Cond.selects "StreetSides$Search" ⟨"StreetSides$Search", "firstLeading", "(LStreetSides$Net;I)I"⟩ ⟨"StreetSides$Search", "firstLeading", "(LStreetSides$Net;I)I"⟩ ∈ tbG := tb_mem 6 (by decide +kernel) (by decide +kernel)
theorem tb_7 : Cond.selects "StreetSides$Search" ⟨"StreetSides$Search", "stepOnFrom", "(LStreetSides$Net;I)V"⟩ ⟨"StreetSides$Search", "stepOnFrom", "(LStreetSides$Net;I)V"⟩ ∈ tbG := tb_mem 7 (by decide +kernel) (by decide +kernel)
theorem tb_8 : Cond.selects "StreetSides$Net" ⟨"StreetSides$Net", "merge", "(II)V"⟩ ⟨"StreetSides$Net", "merge", "(II)V"⟩ ∈ tbG := tb_mem 8 (by decide +kernel) (by decide +kernel)
theorem tb_9 : Cond.selects "StreetSidesModel" ⟨"StreetSidesModel", "isNode", "(I)Z"⟩ ⟨"StreetSidesModel", "isNode", "(I)Z"⟩ ∈ tbG := tb_mem 9 (by decide +kernel) (by decide +kernel)
theorem tb_10 : Cond.selects "StreetSidesModel" ⟨"StreetSidesModel", "isStreet", "(I)Z"⟩ ⟨"StreetSidesModel", "isStreet", "(I)Z"⟩ ∈ tbG := tb_mem 10 (by decide +kernel) (by decide +kernel)
theorem tb_11 : Cond.selects "StreetSidesModel" ⟨"StreetSidesModel", "isSide", "(II)Z"⟩ ⟨"StreetSidesModel", "isSide", "(II)Z"⟩ ∈ tbG := tb_mem 11 (by decide +kernel) (by decide +kernel)
theorem tb_12 : Cond.selects "StreetSidesModel" ⟨"StreetSidesModel", "settle", "(II)V"⟩ ⟨"StreetSidesModel", "settle", "(II)V"⟩ ∈ tbG := tb_mem 12 (by decide +kernel) (by decide +kernel)
theorem tb_13 : Cond.selects "StreetSidesModel" ⟨"StreetSidesModel", "goesInto", "(II)Z"⟩ ⟨"StreetSidesModel", "goesInto", "(II)Z"⟩ ∈ tbG := tb_mem 13 (by decide +kernel) (by decide +kernel)
theorem tb_14 : Cond.selects "StreetSidesModel" ⟨"StreetSidesModel", "canBeDriven", "(I)Z"⟩ ⟨"StreetSidesModel", "canBeDriven", "(I)Z"⟩ ∈ tbG := tb_mem 14 (by decide +kernel) (by decide +kernel)
theorem tb_15 : Cond.selects "StreetSidesModel" ⟨"StreetSidesModel", "beginOf", "(I)I"⟩ ⟨"StreetSidesModel", "beginOf", "(I)I"⟩ ∈ tbG := tb_mem 15 (by decide +kernel) (by decide +kernel)
theorem tb_16 : Cond.selects "StreetSidesModel" ⟨"StreetSidesModel", "endOf", "(I)I"⟩ ⟨"StreetSidesModel", "endOf", "(I)I"⟩ ∈ tbG := tb_mem 16 (by decide +kernel) (by decide +kernel)
theorem tb_17 : Cond.selects "StreetSidesModel" ⟨"StreetSidesModel", "begun", "(III)I"⟩ ⟨"StreetSidesModel", "begun", "(III)I"⟩ ∈ tbG := tb_mem 17 (by decide +kernel) (by decide +kernel)
theorem tb_18 : Cond.selects "StreetSidesModel" ⟨"StreetSidesModel", "isStep", "(II)Z"⟩ ⟨"StreetSidesModel", "isStep", "(II)Z"⟩ ∈ tbG := tb_mem 18 (by decide +kernel) (by decide +kernel)
theorem tb_19 : (Jvm.Cond.initialized "StreetSidesLaw") ∈ tbG := tb_mem 19 (by decide +kernel) (by decide +kernel)
theorem tb_20 : (Jvm.Cond.initialized "StreetSides") ∈ tbG := tb_mem 20 (by decide +kernel) (by decide +kernel)
theorem tb_21 : (Jvm.Cond.initialized "StreetSides$Net") ∈ tbG := tb_mem 21 (by decide +kernel) (by decide +kernel)
theorem tb_22 : (Jvm.Cond.initialized "StreetSides$Nodes") ∈ tbG := tb_mem 22 (by decide +kernel) (by decide +kernel)
theorem tb_23 : (Jvm.Cond.initialized "StreetSides$Streets") ∈ tbG := tb_mem 23 (by decide +kernel) (by decide +kernel)
theorem tb_24 : (Jvm.Cond.initialized "StreetSides$Turns") ∈ tbG := tb_mem 24 (by decide +kernel) (by decide +kernel)
theorem tb_25 : (Jvm.Cond.initialized "StreetSides$Search") ∈ tbG := tb_mem 25 (by decide +kernel) (by decide +kernel)
theorem tb_26 : (Jvm.Cond.initialized "StreetSides$HeldWay") ∈ tbG := tb_mem 26 (by decide +kernel) (by decide +kernel)
theorem tb_27 : (Jvm.Cond.initialized "StreetSides$Needs") ∈ tbG := tb_mem 27 (by decide +kernel) (by decide +kernel)
theorem tb_28 : (Jvm.Cond.initialized "StreetSidesModel") ∈ tbG := tb_mem 28 (by decide +kernel) (by decide +kernel)
theorem tb_29 : (Jvm.Cond.initialized "java/lang/Math") ∈ tbG := tb_mem 29 (by decide +kernel) (by decide +kernel)
theorem tb_30 : (Jvm.Cond.classLink "StreetSidesLaw" (7 : Nat) "StreetSides") ∈ tbG := tb_mem 30 (by decide +kernel) (by decide +kernel)
theorem tb_31 : (Jvm.Cond.instantiable "StreetSides" (4 : Nat)) ∈ tbG := tb_mem 31 (by decide +kernel) (by decide +kernel)
theorem tb_32 : (Jvm.Cond.methodLink "StreetSidesLaw" (9 : Nat) ({ cls := "StreetSides", name := "<init>", desc := "()V" } : Jvm.MethodName)) ∈ tbG := tb_mem 32 (by decide +kernel) (by decide +kernel)
theorem tb_33 : (Jvm.Cond.instanceMethod ({ cls := "StreetSides", name := "<init>", desc := "()V" } : Jvm.MethodName)) ∈ tbG := tb_mem 33 (by decide +kernel) (by decide +kernel)
theorem tb_34 : (Jvm.Cond.code ({ cls := "StreetSides", name := "<init>", desc := "()V" } : Jvm.MethodName) prog_1_method_1_code (1 : Nat) (Option.none : Option Jvm.ClassFile.FieldType)) ∈ tbG := tb_mem 34 (by decide +kernel) (by decide +kernel)
theorem tb_35 : (Jvm.Cond.methodLink "StreetSides" (3 : Nat) ({ cls := "java/lang/Object", name := "<init>", desc := "()V" } : Jvm.MethodName)) ∈ tbG := tb_mem 35 (by decide +kernel) (by decide +kernel)
theorem tb_36 : (Jvm.Cond.instanceMethod ({ cls := "java/lang/Object", name := "<init>", desc := "()V" } : Jvm.MethodName)) ∈ tbG := tb_mem 36 (by decide +kernel) (by decide +kernel)
theorem tb_37 : (Jvm.Cond.code ({ cls := "java/lang/Object", name := "<init>", desc := "()V" } : Jvm.MethodName) object_method_1_code (1 : Nat) (Option.none : Option Jvm.ClassFile.FieldType)) ∈ tbG := tb_mem 37 (by decide +kernel) (by decide +kernel)
theorem tb_38 : (Jvm.Cond.classLink "StreetSides" (9 : Nat) "StreetSides$Net") ∈ tbG := tb_mem 38 (by decide +kernel) (by decide +kernel)
theorem tb_39 : (Jvm.Cond.instantiable "StreetSides$Net" (5 : Nat)) ∈ tbG := tb_mem 39 (by decide +kernel) (by decide +kernel)
theorem tb_41 : (Jvm.Cond.instanceMethod ({ cls := "StreetSides$Net", name := "<init>", desc := "()V" } : Jvm.MethodName)) ∈ tbG := tb_mem 41 (by decide +kernel) (by decide +kernel)
theorem tb_42 : (Jvm.Cond.code ({ cls := "StreetSides$Net", name := "<init>", desc := "()V" } : Jvm.MethodName) prog_4_method_1_code (1 : Nat) (Option.none : Option Jvm.ClassFile.FieldType)) ∈ tbG := tb_mem 42 (by decide +kernel) (by decide +kernel)
theorem tb_43 : (Jvm.Cond.methodLink "StreetSides$Net" (3 : Nat) ({ cls := "java/lang/Object", name := "<init>", desc := "()V" } : Jvm.MethodName)) ∈ tbG := tb_mem 43 (by decide +kernel) (by decide +kernel)
theorem tb_44 : (Jvm.Cond.classLink "StreetSides$Net" (9 : Nat) "StreetSides$Nodes") ∈ tbG := tb_mem 44 (by decide +kernel) (by decide +kernel)
theorem tb_45 : (Jvm.Cond.instantiable "StreetSides$Nodes" (4 : Nat)) ∈ tbG := tb_mem 45 (by decide +kernel) (by decide +kernel)
theorem tb_47 : (Jvm.Cond.instanceMethod ({ cls := "StreetSides$Nodes", name := "<init>", desc := "()V" } : Jvm.MethodName)) ∈ tbG := tb_mem 47 (by decide +kernel) (by decide +kernel)
theorem tb_48 : (Jvm.Cond.code ({ cls := "StreetSides$Nodes", name := "<init>", desc := "()V" } : Jvm.MethodName) prog_5_method_1_code (1 : Nat) (Option.none : Option Jvm.ClassFile.FieldType)) ∈ tbG := tb_mem 48 (by decide +kernel) (by decide +kernel)
theorem tb_49 : (Jvm.Cond.methodLink "StreetSides$Nodes" (3 : Nat) ({ cls := "java/lang/Object", name := "<init>", desc := "()V" } : Jvm.MethodName)) ∈ tbG := tb_mem 49 (by decide +kernel) (by decide +kernel)
theorem tb_50 : (Jvm.Cond.fieldLink "StreetSides$Nodes" (9 : Nat) "StreetSides$Nodes" "x" "[J") ∈ tbG := tb_mem 50 (by decide +kernel) (by decide +kernel)
theorem tb_51 : (Jvm.Cond.fieldLink "StreetSides$Nodes" (15 : Nat) "StreetSides$Nodes" "y" "[J") ∈ tbG := tb_mem 51 (by decide +kernel) (by decide +kernel)
theorem tb_52 : (Jvm.Cond.fieldLink "StreetSides$Nodes" (18 : Nat) "StreetSides$Nodes" "turningPlace" "[Z") ∈ tbG := tb_mem 52 (by decide +kernel) (by decide +kernel)
theorem tb_53 : (Jvm.Cond.fieldLink "StreetSides$Nodes" (22 : Nat) "StreetSides$Nodes" "count" "I") ∈ tbG := tb_mem 53 (by decide +kernel) (by decide +kernel)
theorem tb_54 : (Jvm.Cond.laysFinal "StreetSides$Nodes" "StreetSides$Nodes" "x" "[J") ∈ tbG := tb_mem 54 (by decide +kernel) (by decide +kernel)
theorem tb_56 : (Jvm.Cond.laysFinal "StreetSides$Nodes" "StreetSides$Nodes" "y" "[J") ∈ tbG := tb_mem 56 (by decide +kernel) (by decide +kernel)
theorem tb_58 : (Jvm.Cond.laysFinal "StreetSides$Nodes" "StreetSides$Nodes" "turningPlace" "[Z") ∈ tbG := tb_mem 58 (by decide +kernel) (by decide +kernel)
theorem tb_60 : (Jvm.Cond.lays "StreetSides$Nodes" "StreetSides$Nodes" "count" "I") ∈ tbG := tb_mem 60 (by decide +kernel) (by decide +kernel)
theorem tb_63 : (Jvm.Cond.arrayClass Jvm.ClassFile.FieldType.long) ∈ tbG := tb_mem 63 (by decide +kernel) (by decide +kernel)
theorem tb_64 : (Jvm.Cond.arrayClass Jvm.ClassFile.FieldType.boolean) ∈ tbG := tb_mem 64 (by decide +kernel) (by decide +kernel)
theorem tb_65 : (Jvm.Cond.classLink "StreetSides$Net" (18 : Nat) "StreetSides$Streets") ∈ tbG := tb_mem 65 (by decide +kernel) (by decide +kernel)
theorem tb_66 : (Jvm.Cond.instantiable "StreetSides$Streets" (9 : Nat)) ∈ tbG := tb_mem 66 (by decide +kernel) (by decide +kernel)
theorem tb_68 : (Jvm.Cond.instanceMethod ({ cls := "StreetSides$Streets", name := "<init>", desc := "()V" } : Jvm.MethodName)) ∈ tbG := tb_mem 68 (by decide +kernel) (by decide +kernel)
theorem tb_69 : (Jvm.Cond.code ({ cls := "StreetSides$Streets", name := "<init>", desc := "()V" } : Jvm.MethodName) prog_7_method_1_code (1 : Nat) (Option.none : Option Jvm.ClassFile.FieldType)) ∈ tbG := tb_mem 69 (by decide +kernel) (by decide +kernel)
theorem tb_70 : (Jvm.Cond.methodLink "StreetSides$Streets" (5 : Nat) ({ cls := "java/lang/Object", name := "<init>", desc := "()V" } : Jvm.MethodName)) ∈ tbG := tb_mem 70 (by decide +kernel) (by decide +kernel)
theorem tb_71 : (Jvm.Cond.fieldLink "StreetSides$Streets" (11 : Nat) "StreetSides$Streets" "nodeA" "[I") ∈ tbG := tb_mem 71 (by decide +kernel) (by decide +kernel)
theorem tb_72 : (Jvm.Cond.fieldLink "StreetSides$Streets" (15 : Nat) "StreetSides$Streets" "nodeB" "[I") ∈ tbG := tb_mem 72 (by decide +kernel) (by decide +kernel)
theorem tb_73 : (Jvm.Cond.fieldLink "StreetSides$Streets" (18 : Nat) "StreetSides$Streets" "seconds" "[I") ∈ tbG := tb_mem 73 (by decide +kernel) (by decide +kernel)
theorem tb_74 : (Jvm.Cond.fieldLink "StreetSides$Streets" (21 : Nat) "StreetSides$Streets" "kind" "[I") ∈ tbG := tb_mem 74 (by decide +kernel) (by decide +kernel)
theorem tb_75 : (Jvm.Cond.fieldLink "StreetSides$Streets" (24 : Nat) "StreetSides$Streets" "firstSecond" "[I") ∈ tbG := tb_mem 75 (by decide +kernel) (by decide +kernel)
theorem tb_76 : (Jvm.Cond.fieldLink "StreetSides$Streets" (27 : Nat) "StreetSides$Streets" "lastSecond" "[I") ∈ tbG := tb_mem 76 (by decide +kernel) (by decide +kernel)
theorem tb_77 : (Jvm.Cond.fieldLink "StreetSides$Streets" (30 : Nat) "StreetSides$Streets" "greatest" "[J") ∈ tbG := tb_mem 77 (by decide +kernel) (by decide +kernel)
theorem tb_78 : (Jvm.Cond.fieldLink "StreetSides$Streets" (34 : Nat) "StreetSides$Streets" "closedDays" "[J") ∈ tbG := tb_mem 78 (by decide +kernel) (by decide +kernel)
theorem tb_79 : (Jvm.Cond.fieldLink "StreetSides$Streets" (37 : Nat) "StreetSides$Streets" "count" "I") ∈ tbG := tb_mem 79 (by decide +kernel) (by decide +kernel)
theorem tb_80 : (Jvm.Cond.laysFinal "StreetSides$Streets" "StreetSides$Streets" "nodeA" "[I") ∈ tbG := tb_mem 80 (by decide +kernel) (by decide +kernel)
theorem tb_82 : (Jvm.Cond.laysFinal "StreetSides$Streets" "StreetSides$Streets" "nodeB" "[I") ∈ tbG := tb_mem 82 (by decide +kernel) (by decide +kernel)
theorem tb_84 : (Jvm.Cond.laysFinal "StreetSides$Streets" "StreetSides$Streets" "seconds" "[I") ∈ tbG := tb_mem 84 (by decide +kernel) (by decide +kernel)
theorem tb_86 : (Jvm.Cond.laysFinal "StreetSides$Streets" "StreetSides$Streets" "kind" "[I") ∈ tbG := tb_mem 86 (by decide +kernel) (by decide +kernel)
theorem tb_88 : (Jvm.Cond.laysFinal "StreetSides$Streets" "StreetSides$Streets" "firstSecond" "[I") ∈ tbG := tb_mem 88 (by decide +kernel) (by decide +kernel)
theorem tb_90 : (Jvm.Cond.laysFinal "StreetSides$Streets" "StreetSides$Streets" "lastSecond" "[I") ∈ tbG := tb_mem 90 (by decide +kernel) (by decide +kernel)
theorem tb_92 : (Jvm.Cond.laysFinal "StreetSides$Streets" "StreetSides$Streets" "greatest" "[J") ∈ tbG := tb_mem 92 (by decide +kernel) (by decide +kernel)
theorem tb_94 : (Jvm.Cond.laysFinal "StreetSides$Streets" "StreetSides$Streets" "closedDays" "[J") ∈ tbG := tb_mem 94 (by decide +kernel) (by decide +kernel)
theorem tb_96 : (Jvm.Cond.lays "StreetSides$Streets" "StreetSides$Streets" "count" "I") ∈ tbG := tb_mem 96 (by decide +kernel) (by decide +kernel)
theorem tb_99 : (Jvm.Cond.arrayClass Jvm.ClassFile.FieldType.int) ∈ tbG := tb_mem 99 (by decide +kernel) (by decide +kernel)
theorem tb_100 : (Jvm.Cond.classLink "StreetSides$Net" (25 : Nat) "StreetSides$Turns") ∈ tbG := tb_mem 100 (by decide +kernel) (by decide +kernel)
theorem tb_101 : (Jvm.Cond.instantiable "StreetSides$Turns" (2 : Nat)) ∈ tbG := tb_mem 101 (by decide +kernel) (by decide +kernel)
theorem tb_103 : (Jvm.Cond.instanceMethod ({ cls := "StreetSides$Turns", name := "<init>", desc := "()V" } : Jvm.MethodName)) ∈ tbG := tb_mem 103 (by decide +kernel) (by decide +kernel)
theorem tb_104 : (Jvm.Cond.code ({ cls := "StreetSides$Turns", name := "<init>", desc := "()V" } : Jvm.MethodName) prog_8_method_1_code (1 : Nat) (Option.none : Option Jvm.ClassFile.FieldType)) ∈ tbG := tb_mem 104 (by decide +kernel) (by decide +kernel)
theorem tb_105 : (Jvm.Cond.methodLink "StreetSides$Turns" (3 : Nat) ({ cls := "java/lang/Object", name := "<init>", desc := "()V" } : Jvm.MethodName)) ∈ tbG := tb_mem 105 (by decide +kernel) (by decide +kernel)
theorem tb_106 : (Jvm.Cond.fieldLink "StreetSides$Turns" (9 : Nat) "StreetSides$Turns" "seconds" "[I") ∈ tbG := tb_mem 106 (by decide +kernel) (by decide +kernel)
theorem tb_107 : (Jvm.Cond.fieldLink "StreetSides$Turns" (15 : Nat) "StreetSides$Turns" "barred" "[Z") ∈ tbG := tb_mem 107 (by decide +kernel) (by decide +kernel)
theorem tb_108 : (Jvm.Cond.laysFinal "StreetSides$Turns" "StreetSides$Turns" "seconds" "[I") ∈ tbG := tb_mem 108 (by decide +kernel) (by decide +kernel)
theorem tb_110 : (Jvm.Cond.laysFinal "StreetSides$Turns" "StreetSides$Turns" "barred" "[Z") ∈ tbG := tb_mem 110 (by decide +kernel) (by decide +kernel)
theorem tb_113 : (Jvm.Cond.fieldLink "StreetSides$Net" (12 : Nat) "StreetSides$Net" "nodes" "LStreetSides$Nodes;") ∈ tbG := tb_mem 113 (by decide +kernel) (by decide +kernel)
theorem tb_115 : (Jvm.Cond.fieldLink "StreetSides$Net" (21 : Nat) "StreetSides$Net" "streets" "LStreetSides$Streets;") ∈ tbG := tb_mem 115 (by decide +kernel) (by decide +kernel)
theorem tb_118 : (Jvm.Cond.fieldLink "StreetSides$Net" (28 : Nat) "StreetSides$Net" "turns" "LStreetSides$Turns;") ∈ tbG := tb_mem 118 (by decide +kernel) (by decide +kernel)
theorem tb_120 : (Jvm.Cond.fieldLink "StreetSides$Net" (32 : Nat) "StreetSides$Net" "vehicle" "[J") ∈ tbG := tb_mem 120 (by decide +kernel) (by decide +kernel)
theorem tb_122 : (Jvm.Cond.fieldLink "StreetSides$Net" (36 : Nat) "StreetSides$Net" "pieceOf" "[I") ∈ tbG := tb_mem 122 (by decide +kernel) (by decide +kernel)
theorem tb_123 : (Jvm.Cond.laysFinal "StreetSides$Net" "StreetSides$Net" "nodes" "LStreetSides$Nodes;") ∈ tbG := tb_mem 123 (by decide +kernel) (by decide +kernel)
theorem tb_125 : (Jvm.Cond.laysFinal "StreetSides$Net" "StreetSides$Net" "streets" "LStreetSides$Streets;") ∈ tbG := tb_mem 125 (by decide +kernel) (by decide +kernel)
theorem tb_127 : (Jvm.Cond.laysFinal "StreetSides$Net" "StreetSides$Net" "turns" "LStreetSides$Turns;") ∈ tbG := tb_mem 127 (by decide +kernel) (by decide +kernel)
theorem tb_129 : (Jvm.Cond.laysFinal "StreetSides$Net" "StreetSides$Net" "vehicle" "[J") ∈ tbG := tb_mem 129 (by decide +kernel) (by decide +kernel)
theorem tb_131 : (Jvm.Cond.laysFinal "StreetSides$Net" "StreetSides$Net" "pieceOf" "[I") ∈ tbG := tb_mem 131 (by decide +kernel) (by decide +kernel)
theorem tb_134 : (Jvm.Cond.classLink "StreetSides" (16 : Nat) "StreetSides$Search") ∈ tbG := tb_mem 134 (by decide +kernel) (by decide +kernel)
theorem tb_135 : (Jvm.Cond.instantiable "StreetSides$Search" (6 : Nat)) ∈ tbG := tb_mem 135 (by decide +kernel) (by decide +kernel)
theorem tb_137 : (Jvm.Cond.instanceMethod ({ cls := "StreetSides$Search", name := "<init>", desc := "()V" } : Jvm.MethodName)) ∈ tbG := tb_mem 137 (by decide +kernel) (by decide +kernel)
theorem tb_138 : (Jvm.Cond.code ({ cls := "StreetSides$Search", name := "<init>", desc := "()V" } : Jvm.MethodName) prog_6_method_1_code (1 : Nat) (Option.none : Option Jvm.ClassFile.FieldType)) ∈ tbG := tb_mem 138 (by decide +kernel) (by decide +kernel)
theorem tb_139 : (Jvm.Cond.methodLink "StreetSides$Search" (3 : Nat) ({ cls := "java/lang/Object", name := "<init>", desc := "()V" } : Jvm.MethodName)) ∈ tbG := tb_mem 139 (by decide +kernel) (by decide +kernel)
theorem tb_140 : (Jvm.Cond.fieldLink "StreetSides$Search" (9 : Nat) "StreetSides$Search" "earliest" "[I") ∈ tbG := tb_mem 140 (by decide +kernel) (by decide +kernel)
theorem tb_141 : (Jvm.Cond.fieldLink "StreetSides$Search" (15 : Nat) "StreetSides$Search" "settled" "[Z") ∈ tbG := tb_mem 141 (by decide +kernel) (by decide +kernel)
theorem tb_142 : (Jvm.Cond.fieldLink "StreetSides$Search" (19 : Nat) "StreetSides$Search" "leads" "[Z") ∈ tbG := tb_mem 142 (by decide +kernel) (by decide +kernel)
theorem tb_143 : (Jvm.Cond.fieldLink "StreetSides$Search" (22 : Nat) "StreetSides$Search" "order" "[I") ∈ tbG := tb_mem 143 (by decide +kernel) (by decide +kernel)
theorem tb_144 : (Jvm.Cond.fieldLink "StreetSides$Search" (25 : Nat) "StreetSides$Search" "steps" "[I") ∈ tbG := tb_mem 144 (by decide +kernel) (by decide +kernel)
theorem tb_145 : (Jvm.Cond.fieldLink "StreetSides$Search" (28 : Nat) "StreetSides$Search" "settledCount" "I") ∈ tbG := tb_mem 145 (by decide +kernel) (by decide +kernel)
theorem tb_146 : (Jvm.Cond.laysFinal "StreetSides$Search" "StreetSides$Search" "earliest" "[I") ∈ tbG := tb_mem 146 (by decide +kernel) (by decide +kernel)
theorem tb_148 : (Jvm.Cond.laysFinal "StreetSides$Search" "StreetSides$Search" "settled" "[Z") ∈ tbG := tb_mem 148 (by decide +kernel) (by decide +kernel)
theorem tb_150 : (Jvm.Cond.laysFinal "StreetSides$Search" "StreetSides$Search" "leads" "[Z") ∈ tbG := tb_mem 150 (by decide +kernel) (by decide +kernel)
theorem tb_152 : (Jvm.Cond.laysFinal "StreetSides$Search" "StreetSides$Search" "order" "[I") ∈ tbG := tb_mem 152 (by decide +kernel) (by decide +kernel)
theorem tb_154 : (Jvm.Cond.laysFinal "StreetSides$Search" "StreetSides$Search" "steps" "[I") ∈ tbG := tb_mem 154 (by decide +kernel) (by decide +kernel)
theorem tb_156 : (Jvm.Cond.lays "StreetSides$Search" "StreetSides$Search" "settledCount" "I") ∈ tbG := tb_mem 156 (by decide +kernel) (by decide +kernel)
theorem tb_159 : (Jvm.Cond.classLink "StreetSides" (23 : Nat) "StreetSides$HeldWay") ∈ tbG := tb_mem 159 (by decide +kernel) (by decide +kernel)
theorem tb_160 : (Jvm.Cond.instantiable "StreetSides$HeldWay" (3 : Nat)) ∈ tbG := tb_mem 160 (by decide +kernel) (by decide +kernel)
theorem tb_162 : (Jvm.Cond.instanceMethod ({ cls := "StreetSides$HeldWay", name := "<init>", desc := "()V" } : Jvm.MethodName)) ∈ tbG := tb_mem 162 (by decide +kernel) (by decide +kernel)
theorem tb_163 : (Jvm.Cond.code ({ cls := "StreetSides$HeldWay", name := "<init>", desc := "()V" } : Jvm.MethodName) prog_2_method_1_code (1 : Nat) (Option.none : Option Jvm.ClassFile.FieldType)) ∈ tbG := tb_mem 163 (by decide +kernel) (by decide +kernel)
theorem tb_164 : (Jvm.Cond.methodLink "StreetSides$HeldWay" (3 : Nat) ({ cls := "java/lang/Object", name := "<init>", desc := "()V" } : Jvm.MethodName)) ∈ tbG := tb_mem 164 (by decide +kernel) (by decide +kernel)
theorem tb_165 : (Jvm.Cond.fieldLink "StreetSides$HeldWay" (9 : Nat) "StreetSides$HeldWay" "sides" "[I") ∈ tbG := tb_mem 165 (by decide +kernel) (by decide +kernel)
theorem tb_166 : (Jvm.Cond.fieldLink "StreetSides$HeldWay" (15 : Nat) "StreetSides$HeldWay" "seconds" "[I") ∈ tbG := tb_mem 166 (by decide +kernel) (by decide +kernel)
theorem tb_167 : (Jvm.Cond.fieldLink "StreetSides$HeldWay" (18 : Nat) "StreetSides$HeldWay" "length" "I") ∈ tbG := tb_mem 167 (by decide +kernel) (by decide +kernel)
theorem tb_168 : (Jvm.Cond.laysFinal "StreetSides$HeldWay" "StreetSides$HeldWay" "sides" "[I") ∈ tbG := tb_mem 168 (by decide +kernel) (by decide +kernel)
theorem tb_170 : (Jvm.Cond.laysFinal "StreetSides$HeldWay" "StreetSides$HeldWay" "seconds" "[I") ∈ tbG := tb_mem 170 (by decide +kernel) (by decide +kernel)
theorem tb_172 : (Jvm.Cond.lays "StreetSides$HeldWay" "StreetSides$HeldWay" "length" "I") ∈ tbG := tb_mem 172 (by decide +kernel) (by decide +kernel)
theorem tb_175 : (Jvm.Cond.classLink "StreetSides" (30 : Nat) "StreetSides$Needs") ∈ tbG := tb_mem 175 (by decide +kernel) (by decide +kernel)
theorem tb_176 : (Jvm.Cond.instantiable "StreetSides$Needs" (2 : Nat)) ∈ tbG := tb_mem 176 (by decide +kernel) (by decide +kernel)
theorem tb_178 : (Jvm.Cond.instanceMethod ({ cls := "StreetSides$Needs", name := "<init>", desc := "()V" } : Jvm.MethodName)) ∈ tbG := tb_mem 178 (by decide +kernel) (by decide +kernel)
theorem tb_179 : (Jvm.Cond.code ({ cls := "StreetSides$Needs", name := "<init>", desc := "()V" } : Jvm.MethodName) prog_3_method_1_code (1 : Nat) (Option.none : Option Jvm.ClassFile.FieldType)) ∈ tbG := tb_mem 179 (by decide +kernel) (by decide +kernel)
theorem tb_180 : (Jvm.Cond.methodLink "StreetSides$Needs" (3 : Nat) ({ cls := "java/lang/Object", name := "<init>", desc := "()V" } : Jvm.MethodName)) ∈ tbG := tb_mem 180 (by decide +kernel) (by decide +kernel)
theorem tb_181 : (Jvm.Cond.fieldLink "StreetSides$Needs" (9 : Nat) "StreetSides$Needs" "sides" "[I") ∈ tbG := tb_mem 181 (by decide +kernel) (by decide +kernel)
theorem tb_182 : (Jvm.Cond.fieldLink "StreetSides$Needs" (15 : Nat) "StreetSides$Needs" "count" "I") ∈ tbG := tb_mem 182 (by decide +kernel) (by decide +kernel)
theorem tb_183 : (Jvm.Cond.laysFinal "StreetSides$Needs" "StreetSides$Needs" "sides" "[I") ∈ tbG := tb_mem 183 (by decide +kernel) (by decide +kernel)
theorem tb_185 : (Jvm.Cond.lays "StreetSides$Needs" "StreetSides$Needs" "count" "I") ∈ tbG := tb_mem 185 (by decide +kernel) (by decide +kernel)
theorem tb_188 : (Jvm.Cond.fieldLink "StreetSides" (12 : Nat) "StreetSides" "net" "LStreetSides$Net;") ∈ tbG := tb_mem 188 (by decide +kernel) (by decide +kernel)
theorem tb_189 : (Jvm.Cond.fieldLink "StreetSides" (19 : Nat) "StreetSides" "search" "LStreetSides$Search;") ∈ tbG := tb_mem 189 (by decide +kernel) (by decide +kernel)
theorem tb_190 : (Jvm.Cond.fieldLink "StreetSides" (26 : Nat) "StreetSides" "held" "LStreetSides$HeldWay;") ∈ tbG := tb_mem 190 (by decide +kernel) (by decide +kernel)
theorem tb_191 : (Jvm.Cond.fieldLink "StreetSides" (33 : Nat) "StreetSides" "needs" "LStreetSides$Needs;") ∈ tbG := tb_mem 191 (by decide +kernel) (by decide +kernel)
theorem tb_192 : (Jvm.Cond.laysFinal "StreetSides" "StreetSides" "net" "LStreetSides$Net;") ∈ tbG := tb_mem 192 (by decide +kernel) (by decide +kernel)
theorem tb_194 : (Jvm.Cond.laysFinal "StreetSides" "StreetSides" "search" "LStreetSides$Search;") ∈ tbG := tb_mem 194 (by decide +kernel) (by decide +kernel)
theorem tb_196 : (Jvm.Cond.laysFinal "StreetSides" "StreetSides" "held" "LStreetSides$HeldWay;") ∈ tbG := tb_mem 196 (by decide +kernel) (by decide +kernel)
theorem tb_198 : (Jvm.Cond.laysFinal "StreetSides" "StreetSides" "needs" "LStreetSides$Needs;") ∈ tbG := tb_mem 198 (by decide +kernel) (by decide +kernel)
theorem tb_201 : (Jvm.Cond.methodLink "StreetSidesLaw" (15 : Nat) ({ cls := "StreetSides", name := "node", desc := "(JJ)I" } : Jvm.MethodName)) ∈ tbG := tb_mem 201 (by decide +kernel) (by decide +kernel)
theorem tb_202 : (Jvm.Cond.instanceMethod ({ cls := "StreetSides", name := "node", desc := "(JJ)I" } : Jvm.MethodName)) ∈ tbG := tb_mem 202 (by decide +kernel) (by decide +kernel)
theorem tb_203 : (Jvm.Cond.selects "StreetSides" ({ cls := "StreetSides", name := "node", desc := "(JJ)I" } : Jvm.MethodName) ({ cls := "StreetSides", name := "node", desc := "(JJ)I" } : Jvm.MethodName)) ∈ tbG := tb_mem 203 (by decide +kernel) (by decide +kernel)
theorem tb_204 : (Jvm.Cond.code ({ cls := "StreetSides", name := "node", desc := "(JJ)I" } : Jvm.MethodName) prog_1_method_2_code (5 : Nat) (Option.some Jvm.ClassFile.FieldType.int)) ∈ tbG := tb_mem 204 (by decide +kernel) (by decide +kernel)
theorem tb_205 : (Jvm.Cond.methodLink "StreetSides" (37 : Nat) ({ cls := "StreetSides", name := "isPlace", desc := "(J)Z" } : Jvm.MethodName)) ∈ tbG := tb_mem 205 (by decide +kernel) (by decide +kernel)
theorem tb_206 : (Jvm.Cond.static ({ cls := "StreetSides", name := "isPlace", desc := "(J)Z" } : Jvm.MethodName)) ∈ tbG := tb_mem 206 (by decide +kernel) (by decide +kernel)
theorem tb_207 : (Jvm.Cond.code ({ cls := "StreetSides", name := "isPlace", desc := "(J)Z" } : Jvm.MethodName) prog_1_method_17_code (2 : Nat) (Option.some Jvm.ClassFile.FieldType.boolean)) ∈ tbG := tb_mem 207 (by decide +kernel) (by decide +kernel)
theorem tb_208 : (Jvm.Cond.constantLong "StreetSides" (157 : Nat) (-100000 : Int64)) ∈ tbG := tb_mem 208 (by decide +kernel) (by decide +kernel)
theorem tb_209 : (Jvm.Cond.constantLong "StreetSides" (159 : Nat) (100000 : Int64)) ∈ tbG := tb_mem 209 (by decide +kernel) (by decide +kernel)
theorem tb_210 : (Jvm.Cond.methodLink "StreetSides" (45 : Nat) ({ cls := "StreetSides$Nodes", name := "add", desc := "(JJ)I" } : Jvm.MethodName)) ∈ tbG := tb_mem 210 (by decide +kernel) (by decide +kernel)
theorem tb_211 : (Jvm.Cond.instanceMethod ({ cls := "StreetSides$Nodes", name := "add", desc := "(JJ)I" } : Jvm.MethodName)) ∈ tbG := tb_mem 211 (by decide +kernel) (by decide +kernel)
theorem tb_212 : (Jvm.Cond.selects "StreetSides$Nodes" ({ cls := "StreetSides$Nodes", name := "add", desc := "(JJ)I" } : Jvm.MethodName) ({ cls := "StreetSides$Nodes", name := "add", desc := "(JJ)I" } : Jvm.MethodName)) ∈ tbG := tb_mem 212 (by decide +kernel) (by decide +kernel)
theorem tb_213 : (Jvm.Cond.code ({ cls := "StreetSides$Nodes", name := "add", desc := "(JJ)I" } : Jvm.MethodName) prog_5_method_2_code (5 : Nat) (Option.some Jvm.ClassFile.FieldType.int)) ∈ tbG := tb_mem 213 (by decide +kernel) (by decide +kernel)
theorem tb_214 : (Jvm.Cond.methodLink "StreetSidesLaw" (20 : Nat) ({ cls := "StreetSides", name := "street", desc := "(IIII)I" } : Jvm.MethodName)) ∈ tbG := tb_mem 214 (by decide +kernel) (by decide +kernel)
theorem tb_215 : (Jvm.Cond.instanceMethod ({ cls := "StreetSides", name := "street", desc := "(IIII)I" } : Jvm.MethodName)) ∈ tbG := tb_mem 215 (by decide +kernel) (by decide +kernel)
theorem tb_216 : (Jvm.Cond.selects "StreetSides" ({ cls := "StreetSides", name := "street", desc := "(IIII)I" } : Jvm.MethodName) ({ cls := "StreetSides", name := "street", desc := "(IIII)I" } : Jvm.MethodName)) ∈ tbG := tb_mem 216 (by decide +kernel) (by decide +kernel)
theorem tb_217 : (Jvm.Cond.code ({ cls := "StreetSides", name := "street", desc := "(IIII)I" } : Jvm.MethodName) prog_1_method_3_code (5 : Nat) (Option.some Jvm.ClassFile.FieldType.int)) ∈ tbG := tb_mem 217 (by decide +kernel) (by decide +kernel)
theorem tb_218 : (Jvm.Cond.methodLink "StreetSides" (51 : Nat) ({ cls := "StreetSides$Nodes", name := "has", desc := "(I)Z" } : Jvm.MethodName)) ∈ tbG := tb_mem 218 (by decide +kernel) (by decide +kernel)
theorem tb_219 : (Jvm.Cond.instanceMethod ({ cls := "StreetSides$Nodes", name := "has", desc := "(I)Z" } : Jvm.MethodName)) ∈ tbG := tb_mem 219 (by decide +kernel) (by decide +kernel)
theorem tb_220 : (Jvm.Cond.selects "StreetSides$Nodes" ({ cls := "StreetSides$Nodes", name := "has", desc := "(I)Z" } : Jvm.MethodName) ({ cls := "StreetSides$Nodes", name := "has", desc := "(I)Z" } : Jvm.MethodName)) ∈ tbG := tb_mem 220 (by decide +kernel) (by decide +kernel)
theorem tb_221 : (Jvm.Cond.code ({ cls := "StreetSides$Nodes", name := "has", desc := "(I)Z" } : Jvm.MethodName) prog_5_method_3_code (2 : Nat) (Option.some Jvm.ClassFile.FieldType.boolean)) ∈ tbG := tb_mem 221 (by decide +kernel) (by decide +kernel)
theorem tb_222 : (Jvm.Cond.methodLink "StreetSides" (59 : Nat) ({ cls := "StreetSides$Streets", name := "add", desc := "(IIII)I" } : Jvm.MethodName)) ∈ tbG := tb_mem 222 (by decide +kernel) (by decide +kernel)
theorem tb_223 : (Jvm.Cond.instanceMethod ({ cls := "StreetSides$Streets", name := "add", desc := "(IIII)I" } : Jvm.MethodName)) ∈ tbG := tb_mem 223 (by decide +kernel) (by decide +kernel)
theorem tb_224 : (Jvm.Cond.selects "StreetSides$Streets" ({ cls := "StreetSides$Streets", name := "add", desc := "(IIII)I" } : Jvm.MethodName) ({ cls := "StreetSides$Streets", name := "add", desc := "(IIII)I" } : Jvm.MethodName)) ∈ tbG := tb_mem 224 (by decide +kernel) (by decide +kernel)
theorem tb_225 : (Jvm.Cond.code ({ cls := "StreetSides$Streets", name := "add", desc := "(IIII)I" } : Jvm.MethodName) prog_7_method_2_code (6 : Nat) (Option.some Jvm.ClassFile.FieldType.int)) ∈ tbG := tb_mem 225 (by decide +kernel) (by decide +kernel)
theorem tb_226 : (Jvm.Cond.constant "StreetSides$Streets" (41 : Nat) (86399 : Int32)) ∈ tbG := tb_mem 226 (by decide +kernel) (by decide +kernel)
theorem tb_227 : (Jvm.Cond.methodLink "StreetSides$Streets" (42 : Nat) ({ cls := "StreetSides$Streets", name := "setHours", desc := "(III)V" } : Jvm.MethodName)) ∈ tbG := tb_mem 227 (by decide +kernel) (by decide +kernel)
theorem tb_228 : (Jvm.Cond.instanceMethod ({ cls := "StreetSides$Streets", name := "setHours", desc := "(III)V" } : Jvm.MethodName)) ∈ tbG := tb_mem 228 (by decide +kernel) (by decide +kernel)
theorem tb_229 : (Jvm.Cond.selects "StreetSides$Streets" ({ cls := "StreetSides$Streets", name := "setHours", desc := "(III)V" } : Jvm.MethodName) ({ cls := "StreetSides$Streets", name := "setHours", desc := "(III)V" } : Jvm.MethodName)) ∈ tbG := tb_mem 229 (by decide +kernel) (by decide +kernel)
theorem tb_230 : (Jvm.Cond.code ({ cls := "StreetSides$Streets", name := "setHours", desc := "(III)V" } : Jvm.MethodName) prog_7_method_6_code (4 : Nat) (Option.none : Option Jvm.ClassFile.FieldType)) ∈ tbG := tb_mem 230 (by decide +kernel) (by decide +kernel)
theorem tb_231 : (Jvm.Cond.constantLong "StreetSides$Streets" (46 : Nat) (1000000 : Int64)) ∈ tbG := tb_mem 231 (by decide +kernel) (by decide +kernel)
theorem tb_232 : (Jvm.Cond.methodLink "StreetSides$Streets" (48 : Nat) ({ cls := "StreetSides$Streets", name := "setGreatest", desc := "(IIJ)V" } : Jvm.MethodName)) ∈ tbG := tb_mem 232 (by decide +kernel) (by decide +kernel)
theorem tb_233 : (Jvm.Cond.instanceMethod ({ cls := "StreetSides$Streets", name := "setGreatest", desc := "(IIJ)V" } : Jvm.MethodName)) ∈ tbG := tb_mem 233 (by decide +kernel) (by decide +kernel)
theorem tb_234 : (Jvm.Cond.selects "StreetSides$Streets" ({ cls := "StreetSides$Streets", name := "setGreatest", desc := "(IIJ)V" } : Jvm.MethodName) ({ cls := "StreetSides$Streets", name := "setGreatest", desc := "(IIJ)V" } : Jvm.MethodName)) ∈ tbG := tb_mem 234 (by decide +kernel) (by decide +kernel)
theorem tb_235 : (Jvm.Cond.code ({ cls := "StreetSides$Streets", name := "setGreatest", desc := "(IIJ)V" } : Jvm.MethodName) prog_7_method_7_code (5 : Nat) (Option.none : Option Jvm.ClassFile.FieldType)) ∈ tbG := tb_mem 235 (by decide +kernel) (by decide +kernel)
theorem tb_236 : (Jvm.Cond.methodLink "StreetSidesLaw" (25 : Nat) ({ cls := "StreetSides", name := "turn", desc := "(IIIZ)Z" } : Jvm.MethodName)) ∈ tbG := tb_mem 236 (by decide +kernel) (by decide +kernel)
theorem tb_237 : (Jvm.Cond.instanceMethod ({ cls := "StreetSides", name := "turn", desc := "(IIIZ)Z" } : Jvm.MethodName)) ∈ tbG := tb_mem 237 (by decide +kernel) (by decide +kernel)
theorem tb_238 : (Jvm.Cond.selects "StreetSides" ({ cls := "StreetSides", name := "turn", desc := "(IIIZ)Z" } : Jvm.MethodName) ({ cls := "StreetSides", name := "turn", desc := "(IIIZ)Z" } : Jvm.MethodName)) ∈ tbG := tb_mem 238 (by decide +kernel) (by decide +kernel)
theorem tb_239 : (Jvm.Cond.code ({ cls := "StreetSides", name := "turn", desc := "(IIIZ)Z" } : Jvm.MethodName) prog_1_method_4_code (5 : Nat) (Option.some Jvm.ClassFile.FieldType.boolean)) ∈ tbG := tb_mem 239 (by decide +kernel) (by decide +kernel)
theorem tb_240 : (Jvm.Cond.methodLink "StreetSides" (64 : Nat) ({ cls := "StreetSides$Streets", name := "has", desc := "(I)Z" } : Jvm.MethodName)) ∈ tbG := tb_mem 240 (by decide +kernel) (by decide +kernel)
theorem tb_241 : (Jvm.Cond.instanceMethod ({ cls := "StreetSides$Streets", name := "has", desc := "(I)Z" } : Jvm.MethodName)) ∈ tbG := tb_mem 241 (by decide +kernel) (by decide +kernel)
theorem tb_242 : (Jvm.Cond.selects "StreetSides$Streets" ({ cls := "StreetSides$Streets", name := "has", desc := "(I)Z" } : Jvm.MethodName) ({ cls := "StreetSides$Streets", name := "has", desc := "(I)Z" } : Jvm.MethodName)) ∈ tbG := tb_mem 242 (by decide +kernel) (by decide +kernel)
theorem tb_243 : (Jvm.Cond.code ({ cls := "StreetSides$Streets", name := "has", desc := "(I)Z" } : Jvm.MethodName) prog_7_method_3_code (2 : Nat) (Option.some Jvm.ClassFile.FieldType.boolean)) ∈ tbG := tb_mem 243 (by decide +kernel) (by decide +kernel)
theorem tb_244 : (Jvm.Cond.methodLink "StreetSides" (69 : Nat) ({ cls := "StreetSides$Turns", name := "set", desc := "(IIIZ)V" } : Jvm.MethodName)) ∈ tbG := tb_mem 244 (by decide +kernel) (by decide +kernel)
theorem tb_245 : (Jvm.Cond.instanceMethod ({ cls := "StreetSides$Turns", name := "set", desc := "(IIIZ)V" } : Jvm.MethodName)) ∈ tbG := tb_mem 245 (by decide +kernel) (by decide +kernel)
theorem tb_246 : (Jvm.Cond.selects "StreetSides$Turns" ({ cls := "StreetSides$Turns", name := "set", desc := "(IIIZ)V" } : Jvm.MethodName) ({ cls := "StreetSides$Turns", name := "set", desc := "(IIIZ)V" } : Jvm.MethodName)) ∈ tbG := tb_mem 246 (by decide +kernel) (by decide +kernel)
theorem tb_247 : (Jvm.Cond.code ({ cls := "StreetSides$Turns", name := "set", desc := "(IIIZ)V" } : Jvm.MethodName) prog_8_method_2_code (5 : Nat) (Option.none : Option Jvm.ClassFile.FieldType)) ∈ tbG := tb_mem 247 (by decide +kernel) (by decide +kernel)
theorem tb_248 : (Jvm.Cond.methodLink "StreetSides$Turns" (19 : Nat) ({ cls := "StreetSides$Turns", name := "slotOf", desc := "(II)I" } : Jvm.MethodName)) ∈ tbG := tb_mem 248 (by decide +kernel) (by decide +kernel)
theorem tb_249 : (Jvm.Cond.static ({ cls := "StreetSides$Turns", name := "slotOf", desc := "(II)I" } : Jvm.MethodName)) ∈ tbG := tb_mem 249 (by decide +kernel) (by decide +kernel)
theorem tb_250 : (Jvm.Cond.code ({ cls := "StreetSides$Turns", name := "slotOf", desc := "(II)I" } : Jvm.MethodName) prog_8_method_5_code (2 : Nat) (Option.some Jvm.ClassFile.FieldType.int)) ∈ tbG := tb_mem 250 (by decide +kernel) (by decide +kernel)
theorem tb_251 : (Jvm.Cond.methodLink "StreetSidesLaw" (30 : Nat) ({ cls := "StreetSides", name := "hours", desc := "(III)Z" } : Jvm.MethodName)) ∈ tbG := tb_mem 251 (by decide +kernel) (by decide +kernel)
theorem tb_252 : (Jvm.Cond.instanceMethod ({ cls := "StreetSides", name := "hours", desc := "(III)Z" } : Jvm.MethodName)) ∈ tbG := tb_mem 252 (by decide +kernel) (by decide +kernel)
theorem tb_253 : (Jvm.Cond.selects "StreetSides" ({ cls := "StreetSides", name := "hours", desc := "(III)Z" } : Jvm.MethodName) ({ cls := "StreetSides", name := "hours", desc := "(III)Z" } : Jvm.MethodName)) ∈ tbG := tb_mem 253 (by decide +kernel) (by decide +kernel)
theorem tb_254 : (Jvm.Cond.code ({ cls := "StreetSides", name := "hours", desc := "(III)Z" } : Jvm.MethodName) prog_1_method_5_code (4 : Nat) (Option.some Jvm.ClassFile.FieldType.boolean)) ∈ tbG := tb_mem 254 (by decide +kernel) (by decide +kernel)
theorem tb_255 : (Jvm.Cond.constant "StreetSides" (75 : Nat) (86400 : Int32)) ∈ tbG := tb_mem 255 (by decide +kernel) (by decide +kernel)
theorem tb_256 : (Jvm.Cond.methodLink "StreetSides" (76 : Nat) ({ cls := "StreetSides$Streets", name := "setHours", desc := "(III)V" } : Jvm.MethodName)) ∈ tbG := tb_mem 256 (by decide +kernel) (by decide +kernel)
theorem tb_257 : (Jvm.Cond.methodLink "StreetSidesLaw" (35 : Nat) ({ cls := "StreetSides", name := "limit", desc := "(IIJ)Z" } : Jvm.MethodName)) ∈ tbG := tb_mem 257 (by decide +kernel) (by decide +kernel)
theorem tb_258 : (Jvm.Cond.instanceMethod ({ cls := "StreetSides", name := "limit", desc := "(IIJ)Z" } : Jvm.MethodName)) ∈ tbG := tb_mem 258 (by decide +kernel) (by decide +kernel)
theorem tb_259 : (Jvm.Cond.selects "StreetSides" ({ cls := "StreetSides", name := "limit", desc := "(IIJ)Z" } : Jvm.MethodName) ({ cls := "StreetSides", name := "limit", desc := "(IIJ)Z" } : Jvm.MethodName)) ∈ tbG := tb_mem 259 (by decide +kernel) (by decide +kernel)
theorem tb_260 : (Jvm.Cond.code ({ cls := "StreetSides", name := "limit", desc := "(IIJ)Z" } : Jvm.MethodName) prog_1_method_6_code (5 : Nat) (Option.some Jvm.ClassFile.FieldType.boolean)) ∈ tbG := tb_mem 260 (by decide +kernel) (by decide +kernel)
theorem tb_261 : (Jvm.Cond.constantLong "StreetSides" (80 : Nat) (1000000 : Int64)) ∈ tbG := tb_mem 261 (by decide +kernel) (by decide +kernel)
theorem tb_262 : (Jvm.Cond.methodLink "StreetSides" (86 : Nat) ({ cls := "StreetSides$Streets", name := "setGreatest", desc := "(IIJ)V" } : Jvm.MethodName)) ∈ tbG := tb_mem 262 (by decide +kernel) (by decide +kernel)
theorem tb_263 : (Jvm.Cond.methodLink "StreetSidesLaw" (40 : Nat) ({ cls := "StreetSides", name := "deadEnd", desc := "(IZ)Z" } : Jvm.MethodName)) ∈ tbG := tb_mem 263 (by decide +kernel) (by decide +kernel)
theorem tb_264 : (Jvm.Cond.instanceMethod ({ cls := "StreetSides", name := "deadEnd", desc := "(IZ)Z" } : Jvm.MethodName)) ∈ tbG := tb_mem 264 (by decide +kernel) (by decide +kernel)
theorem tb_265 : (Jvm.Cond.selects "StreetSides" ({ cls := "StreetSides", name := "deadEnd", desc := "(IZ)Z" } : Jvm.MethodName) ({ cls := "StreetSides", name := "deadEnd", desc := "(IZ)Z" } : Jvm.MethodName)) ∈ tbG := tb_mem 265 (by decide +kernel) (by decide +kernel)
theorem tb_266 : (Jvm.Cond.code ({ cls := "StreetSides", name := "deadEnd", desc := "(IZ)Z" } : Jvm.MethodName) prog_1_method_7_code (3 : Nat) (Option.some Jvm.ClassFile.FieldType.boolean)) ∈ tbG := tb_mem 266 (by decide +kernel) (by decide +kernel)
theorem tb_267 : (Jvm.Cond.methodLink "StreetSides" (90 : Nat) ({ cls := "StreetSides$Nodes", name := "setTurningPlace", desc := "(IZ)V" } : Jvm.MethodName)) ∈ tbG := tb_mem 267 (by decide +kernel) (by decide +kernel)
theorem tb_268 : (Jvm.Cond.instanceMethod ({ cls := "StreetSides$Nodes", name := "setTurningPlace", desc := "(IZ)V" } : Jvm.MethodName)) ∈ tbG := tb_mem 268 (by decide +kernel) (by decide +kernel)
theorem tb_269 : (Jvm.Cond.selects "StreetSides$Nodes" ({ cls := "StreetSides$Nodes", name := "setTurningPlace", desc := "(IZ)V" } : Jvm.MethodName) ({ cls := "StreetSides$Nodes", name := "setTurningPlace", desc := "(IZ)V" } : Jvm.MethodName)) ∈ tbG := tb_mem 269 (by decide +kernel) (by decide +kernel)
theorem tb_270 : (Jvm.Cond.code ({ cls := "StreetSides$Nodes", name := "setTurningPlace", desc := "(IZ)V" } : Jvm.MethodName) prog_5_method_5_code (3 : Nat) (Option.none : Option Jvm.ClassFile.FieldType)) ∈ tbG := tb_mem 270 (by decide +kernel) (by decide +kernel)
theorem tb_271 : (Jvm.Cond.methodLink "StreetSidesLaw" (45 : Nat) ({ cls := "StreetSides", name := "close", desc := "(IIZ)Z" } : Jvm.MethodName)) ∈ tbG := tb_mem 271 (by decide +kernel) (by decide +kernel)
theorem tb_272 : (Jvm.Cond.instanceMethod ({ cls := "StreetSides", name := "close", desc := "(IIZ)Z" } : Jvm.MethodName)) ∈ tbG := tb_mem 272 (by decide +kernel) (by decide +kernel)
theorem tb_273 : (Jvm.Cond.selects "StreetSides" ({ cls := "StreetSides", name := "close", desc := "(IIZ)Z" } : Jvm.MethodName) ({ cls := "StreetSides", name := "close", desc := "(IIZ)Z" } : Jvm.MethodName)) ∈ tbG := tb_mem 273 (by decide +kernel) (by decide +kernel)
theorem tb_274 : (Jvm.Cond.code ({ cls := "StreetSides", name := "close", desc := "(IIZ)Z" } : Jvm.MethodName) prog_1_method_8_code (4 : Nat) (Option.some Jvm.ClassFile.FieldType.boolean)) ∈ tbG := tb_mem 274 (by decide +kernel) (by decide +kernel)
theorem tb_275 : (Jvm.Cond.methodLink "StreetSides" (94 : Nat) ({ cls := "StreetSides$Streets", name := "setClosed", desc := "(IIZ)V" } : Jvm.MethodName)) ∈ tbG := tb_mem 275 (by decide +kernel) (by decide +kernel)
theorem tb_276 : (Jvm.Cond.instanceMethod ({ cls := "StreetSides$Streets", name := "setClosed", desc := "(IIZ)V" } : Jvm.MethodName)) ∈ tbG := tb_mem 276 (by decide +kernel) (by decide +kernel)
theorem tb_277 : (Jvm.Cond.selects "StreetSides$Streets" ({ cls := "StreetSides$Streets", name := "setClosed", desc := "(IIZ)V" } : Jvm.MethodName) ({ cls := "StreetSides$Streets", name := "setClosed", desc := "(IIZ)V" } : Jvm.MethodName)) ∈ tbG := tb_mem 277 (by decide +kernel) (by decide +kernel)
theorem tb_278 : (Jvm.Cond.code ({ cls := "StreetSides$Streets", name := "setClosed", desc := "(IIZ)V" } : Jvm.MethodName) prog_7_method_9_code (7 : Nat) (Option.none : Option Jvm.ClassFile.FieldType)) ∈ tbG := tb_mem 278 (by decide +kernel) (by decide +kernel)
theorem tb_279 : (Jvm.Cond.methodLink "StreetSides$Streets" (52 : Nat) ({ cls := "StreetSides$Streets", name := "wordOf", desc := "(II)I" } : Jvm.MethodName)) ∈ tbG := tb_mem 279 (by decide +kernel) (by decide +kernel)
theorem tb_280 : (Jvm.Cond.static ({ cls := "StreetSides$Streets", name := "wordOf", desc := "(II)I" } : Jvm.MethodName)) ∈ tbG := tb_mem 280 (by decide +kernel) (by decide +kernel)
theorem tb_281 : (Jvm.Cond.code ({ cls := "StreetSides$Streets", name := "wordOf", desc := "(II)I" } : Jvm.MethodName) prog_7_method_11_code (2 : Nat) (Option.some Jvm.ClassFile.FieldType.int)) ∈ tbG := tb_mem 281 (by decide +kernel) (by decide +kernel)
theorem tb_282 : (Jvm.Cond.methodLink "StreetSides$Streets" (56 : Nat) ({ cls := "StreetSides$Streets", name := "bitOf", desc := "(I)J" } : Jvm.MethodName)) ∈ tbG := tb_mem 282 (by decide +kernel) (by decide +kernel)
theorem tb_283 : (Jvm.Cond.static ({ cls := "StreetSides$Streets", name := "bitOf", desc := "(I)J" } : Jvm.MethodName)) ∈ tbG := tb_mem 283 (by decide +kernel) (by decide +kernel)
theorem tb_284 : (Jvm.Cond.code ({ cls := "StreetSides$Streets", name := "bitOf", desc := "(I)J" } : Jvm.MethodName) prog_7_method_12_code (1 : Nat) (Option.some Jvm.ClassFile.FieldType.long)) ∈ tbG := tb_mem 284 (by decide +kernel) (by decide +kernel)
theorem tb_285 : (Jvm.Cond.constantLong "StreetSides$Streets" (60 : Nat) (-1 : Int64)) ∈ tbG := tb_mem 285 (by decide +kernel) (by decide +kernel)
theorem tb_286 : (Jvm.Cond.methodLink "StreetSidesLaw" (50 : Nat) ({ cls := "StreetSides", name := "least", desc := "(IIIII)I" } : Jvm.MethodName)) ∈ tbG := tb_mem 286 (by decide +kernel) (by decide +kernel)
theorem tb_287 : (Jvm.Cond.instanceMethod ({ cls := "StreetSides", name := "least", desc := "(IIIII)I" } : Jvm.MethodName)) ∈ tbG := tb_mem 287 (by decide +kernel) (by decide +kernel)
theorem tb_288 : (Jvm.Cond.selects "StreetSides" ({ cls := "StreetSides", name := "least", desc := "(IIIII)I" } : Jvm.MethodName) ({ cls := "StreetSides", name := "least", desc := "(IIIII)I" } : Jvm.MethodName)) ∈ tbG := tb_mem 288 (by decide +kernel) (by decide +kernel)
theorem tb_289 : (Jvm.Cond.code ({ cls := "StreetSides", name := "least", desc := "(IIIII)I" } : Jvm.MethodName) prog_1_method_9_code (8 : Nat) (Option.some Jvm.ClassFile.FieldType.int)) ∈ tbG := tb_mem 289 (by decide +kernel) (by decide +kernel)
theorem tb_290 : (Jvm.Cond.methodLink "StreetSides" (98 : Nat) ({ cls := "StreetSides", name := "isSide", desc := "(II)Z" } : Jvm.MethodName)) ∈ tbG := tb_mem 290 (by decide +kernel) (by decide +kernel)
theorem tb_292 : (Jvm.Cond.instanceMethod ({ cls := "StreetSides", name := "isSide", desc := "(II)Z" } : Jvm.MethodName)) ∈ tbG := tb_mem 292 (by decide +kernel) (by decide +kernel)
theorem tb_293 : (Jvm.Cond.code ({ cls := "StreetSides", name := "isSide", desc := "(II)Z" } : Jvm.MethodName) prog_1_method_18_code (3 : Nat) (Option.some Jvm.ClassFile.FieldType.boolean)) ∈ tbG := tb_mem 293 (by decide +kernel) (by decide +kernel)
theorem tb_294 : (Jvm.Cond.constant "StreetSides" (102 : Nat) (31622400 : Int32)) ∈ tbG := tb_mem 294 (by decide +kernel) (by decide +kernel)
theorem tb_295 : (Jvm.Cond.methodLink "StreetSides" (103 : Nat) ({ cls := "StreetSides", name := "numberOf", desc := "(II)I" } : Jvm.MethodName)) ∈ tbG := tb_mem 295 (by decide +kernel) (by decide +kernel)
theorem tb_296 : (Jvm.Cond.static ({ cls := "StreetSides", name := "numberOf", desc := "(II)I" } : Jvm.MethodName)) ∈ tbG := tb_mem 296 (by decide +kernel) (by decide +kernel)
theorem tb_297 : (Jvm.Cond.code ({ cls := "StreetSides", name := "numberOf", desc := "(II)I" } : Jvm.MethodName) prog_1_method_19_code (2 : Nat) (Option.some Jvm.ClassFile.FieldType.int)) ∈ tbG := tb_mem 297 (by decide +kernel) (by decide +kernel)
theorem tb_298 : (Jvm.Cond.methodLink "StreetSides" (107 : Nat) ({ cls := "StreetSides$HeldWay", name := "forget", desc := "()V" } : Jvm.MethodName)) ∈ tbG := tb_mem 298 (by decide +kernel) (by decide +kernel)
theorem tb_299 : (Jvm.Cond.instanceMethod ({ cls := "StreetSides$HeldWay", name := "forget", desc := "()V" } : Jvm.MethodName)) ∈ tbG := tb_mem 299 (by decide +kernel) (by decide +kernel)
theorem tb_300 : (Jvm.Cond.selects "StreetSides$HeldWay" ({ cls := "StreetSides$HeldWay", name := "forget", desc := "()V" } : Jvm.MethodName) ({ cls := "StreetSides$HeldWay", name := "forget", desc := "()V" } : Jvm.MethodName)) ∈ tbG := tb_mem 300 (by decide +kernel) (by decide +kernel)
theorem tb_301 : (Jvm.Cond.code ({ cls := "StreetSides$HeldWay", name := "forget", desc := "()V" } : Jvm.MethodName) prog_2_method_2_code (1 : Nat) (Option.none : Option Jvm.ClassFile.FieldType)) ∈ tbG := tb_mem 301 (by decide +kernel) (by decide +kernel)
theorem tb_302 : (Jvm.Cond.methodLink "StreetSides" (110 : Nat) ({ cls := "StreetSides$Search", name := "explore", desc := "(LStreetSides$Net;II)V" } : Jvm.MethodName)) ∈ tbG := tb_mem 302 (by decide +kernel) (by decide +kernel)
theorem tb_303 : (Jvm.Cond.instanceMethod ({ cls := "StreetSides$Search", name := "explore", desc := "(LStreetSides$Net;II)V" } : Jvm.MethodName)) ∈ tbG := tb_mem 303 (by decide +kernel) (by decide +kernel)
theorem tb_304 : (Jvm.Cond.selects "StreetSides$Search" ({ cls := "StreetSides$Search", name := "explore", desc := "(LStreetSides$Net;II)V" } : Jvm.MethodName) ({ cls := "StreetSides$Search", name := "explore", desc := "(LStreetSides$Net;II)V" } : Jvm.MethodName)) ∈ tbG := tb_mem 304 (by decide +kernel) (by decide +kernel)
theorem tb_305 : (Jvm.Cond.code ({ cls := "StreetSides$Search", name := "explore", desc := "(LStreetSides$Net;II)V" } : Jvm.MethodName) prog_6_method_2_code (7 : Nat) (Option.none : Option Jvm.ClassFile.FieldType)) ∈ tbG := tb_mem 305 (by decide +kernel) (by decide +kernel)
theorem tb_306 : (Jvm.Cond.methodLink "StreetSides$Search" (32 : Nat) ({ cls := "StreetSides$Search", name := "forget", desc := "()V" } : Jvm.MethodName)) ∈ tbG := tb_mem 306 (by decide +kernel) (by decide +kernel)
theorem tb_308 : (Jvm.Cond.instanceMethod ({ cls := "StreetSides$Search", name := "forget", desc := "()V" } : Jvm.MethodName)) ∈ tbG := tb_mem 308 (by decide +kernel) (by decide +kernel)
theorem tb_309 : (Jvm.Cond.code ({ cls := "StreetSides$Search", name := "forget", desc := "()V" } : Jvm.MethodName) prog_6_method_3_code (2 : Nat) (Option.none : Option Jvm.ClassFile.FieldType)) ∈ tbG := tb_mem 309 (by decide +kernel) (by decide +kernel)
theorem tb_310 : (Jvm.Cond.constant "StreetSides$Search" (55 : Nat) (63244800 : Int32)) ∈ tbG := tb_mem 310 (by decide +kernel) (by decide +kernel)
theorem tb_311 : (Jvm.Cond.methodLink "StreetSides$Search" (41 : Nat) ({ cls := "StreetSides$Streets", name := "sides", desc := "()I" } : Jvm.MethodName)) ∈ tbG := tb_mem 311 (by decide +kernel) (by decide +kernel)
theorem tb_312 : (Jvm.Cond.instanceMethod ({ cls := "StreetSides$Streets", name := "sides", desc := "()I" } : Jvm.MethodName)) ∈ tbG := tb_mem 312 (by decide +kernel) (by decide +kernel)
theorem tb_313 : (Jvm.Cond.selects "StreetSides$Streets" ({ cls := "StreetSides$Streets", name := "sides", desc := "()I" } : Jvm.MethodName) ({ cls := "StreetSides$Streets", name := "sides", desc := "()I" } : Jvm.MethodName)) ∈ tbG := tb_mem 313 (by decide +kernel) (by decide +kernel)
theorem tb_314 : (Jvm.Cond.code ({ cls := "StreetSides$Streets", name := "sides", desc := "()I" } : Jvm.MethodName) prog_7_method_5_code (1 : Nat) (Option.some Jvm.ClassFile.FieldType.int)) ∈ tbG := tb_mem 314 (by decide +kernel) (by decide +kernel)
theorem tb_315 : (Jvm.Cond.methodLink "StreetSides$Search" (47 : Nat) ({ cls := "StreetSides$Search", name := "soonestUnsettled", desc := "(I)I" } : Jvm.MethodName)) ∈ tbG := tb_mem 315 (by decide +kernel) (by decide +kernel)
theorem tb_317 : (Jvm.Cond.instanceMethod ({ cls := "StreetSides$Search", name := "soonestUnsettled", desc := "(I)I" } : Jvm.MethodName)) ∈ tbG := tb_mem 317 (by decide +kernel) (by decide +kernel)
theorem tb_318 : (Jvm.Cond.code ({ cls := "StreetSides$Search", name := "soonestUnsettled", desc := "(I)I" } : Jvm.MethodName) prog_6_method_4_code (5 : Nat) (Option.some Jvm.ClassFile.FieldType.int)) ∈ tbG := tb_mem 318 (by decide +kernel) (by decide +kernel)
theorem tb_319 : (Jvm.Cond.methodLink "StreetSides$Search" (51 : Nat) ({ cls := "StreetSides$Search", name := "goOnFrom", desc := "(LStreetSides$Net;I)V" } : Jvm.MethodName)) ∈ tbG := tb_mem 319 (by decide +kernel) (by decide +kernel)
theorem tb_321 : (Jvm.Cond.instanceMethod ({ cls := "StreetSides$Search", name := "goOnFrom", desc := "(LStreetSides$Net;I)V" } : Jvm.MethodName)) ∈ tbG := tb_mem 321 (by decide +kernel) (by decide +kernel)
theorem tb_322 : (Jvm.Cond.code ({ cls := "StreetSides$Search", name := "goOnFrom", desc := "(LStreetSides$Net;I)V" } : Jvm.MethodName) prog_6_method_5_code (5 : Nat) (Option.none : Option Jvm.ClassFile.FieldType)) ∈ tbG := tb_mem 322 (by decide +kernel) (by decide +kernel)
theorem tb_323 : (Jvm.Cond.methodLink "StreetSides$Search" (56 : Nat) ({ cls := "StreetSides$Net", name := "endBehind", desc := "(III)I" } : Jvm.MethodName)) ∈ tbG := tb_mem 323 (by decide +kernel) (by decide +kernel)
theorem tb_324 : (Jvm.Cond.instanceMethod ({ cls := "StreetSides$Net", name := "endBehind", desc := "(III)I" } : Jvm.MethodName)) ∈ tbG := tb_mem 324 (by decide +kernel) (by decide +kernel)
theorem tb_325 : (Jvm.Cond.selects "StreetSides$Net" ({ cls := "StreetSides$Net", name := "endBehind", desc := "(III)I" } : Jvm.MethodName) ({ cls := "StreetSides$Net", name := "endBehind", desc := "(III)I" } : Jvm.MethodName)) ∈ tbG := tb_mem 325 (by decide +kernel) (by decide +kernel)
theorem tb_326 : (Jvm.Cond.code ({ cls := "StreetSides$Net", name := "endBehind", desc := "(III)I" } : Jvm.MethodName) prog_4_method_4_code (7 : Nat) (Option.some Jvm.ClassFile.FieldType.int)) ∈ tbG := tb_mem 326 (by decide +kernel) (by decide +kernel)
theorem tb_327 : (Jvm.Cond.methodLink "StreetSides$Net" (68 : Nat) ({ cls := "StreetSides$Net", name := "goesOn", desc := "(II)Z" } : Jvm.MethodName)) ∈ tbG := tb_mem 327 (by decide +kernel) (by decide +kernel)
theorem tb_328 : (Jvm.Cond.instanceMethod ({ cls := "StreetSides$Net", name := "goesOn", desc := "(II)Z" } : Jvm.MethodName)) ∈ tbG := tb_mem 328 (by decide +kernel) (by decide +kernel)
theorem tb_329 : (Jvm.Cond.selects "StreetSides$Net" ({ cls := "StreetSides$Net", name := "goesOn", desc := "(II)Z" } : Jvm.MethodName) ({ cls := "StreetSides$Net", name := "goesOn", desc := "(II)Z" } : Jvm.MethodName)) ∈ tbG := tb_mem 329 (by decide +kernel) (by decide +kernel)
theorem tb_330 : (Jvm.Cond.code ({ cls := "StreetSides$Net", name := "goesOn", desc := "(II)Z" } : Jvm.MethodName) prog_4_method_3_code (6 : Nat) (Option.some Jvm.ClassFile.FieldType.boolean)) ∈ tbG := tb_mem 330 (by decide +kernel) (by decide +kernel)
theorem tb_331 : (Jvm.Cond.methodLink "StreetSides$Net" (52 : Nat) ({ cls := "StreetSides$Streets", name := "endOf", desc := "(I)I" } : Jvm.MethodName)) ∈ tbG := tb_mem 331 (by decide +kernel) (by decide +kernel)
theorem tb_332 : (Jvm.Cond.instanceMethod ({ cls := "StreetSides$Streets", name := "endOf", desc := "(I)I" } : Jvm.MethodName)) ∈ tbG := tb_mem 332 (by decide +kernel) (by decide +kernel)
theorem tb_333 : (Jvm.Cond.selects "StreetSides$Streets" ({ cls := "StreetSides$Streets", name := "endOf", desc := "(I)I" } : Jvm.MethodName) ({ cls := "StreetSides$Streets", name := "endOf", desc := "(I)I" } : Jvm.MethodName)) ∈ tbG := tb_mem 333 (by decide +kernel) (by decide +kernel)
theorem tb_334 : (Jvm.Cond.code ({ cls := "StreetSides$Streets", name := "endOf", desc := "(I)I" } : Jvm.MethodName) prog_7_method_17_code (2 : Nat) (Option.some Jvm.ClassFile.FieldType.int)) ∈ tbG := tb_mem 334 (by decide +kernel) (by decide +kernel)
theorem tb_336 : (Jvm.Cond.static ({ cls := "StreetSides", name := "streetOf", desc := "(I)I" } : Jvm.MethodName)) ∈ tbG := tb_mem 336 (by decide +kernel) (by decide +kernel)
theorem tb_337 : (Jvm.Cond.code ({ cls := "StreetSides", name := "streetOf", desc := "(I)I" } : Jvm.MethodName) prog_1_method_20_code (1 : Nat) (Option.some Jvm.ClassFile.FieldType.int)) ∈ tbG := tb_mem 337 (by decide +kernel) (by decide +kernel)
theorem tb_338 : (Jvm.Cond.methodLink "StreetSides$Net" (55 : Nat) ({ cls := "StreetSides$Streets", name := "startOf", desc := "(I)I" } : Jvm.MethodName)) ∈ tbG := tb_mem 338 (by decide +kernel) (by decide +kernel)
theorem tb_339 : (Jvm.Cond.instanceMethod ({ cls := "StreetSides$Streets", name := "startOf", desc := "(I)I" } : Jvm.MethodName)) ∈ tbG := tb_mem 339 (by decide +kernel) (by decide +kernel)
theorem tb_340 : (Jvm.Cond.selects "StreetSides$Streets" ({ cls := "StreetSides$Streets", name := "startOf", desc := "(I)I" } : Jvm.MethodName) ({ cls := "StreetSides$Streets", name := "startOf", desc := "(I)I" } : Jvm.MethodName)) ∈ tbG := tb_mem 340 (by decide +kernel) (by decide +kernel)
theorem tb_341 : (Jvm.Cond.code ({ cls := "StreetSides$Streets", name := "startOf", desc := "(I)I" } : Jvm.MethodName) prog_7_method_16_code (2 : Nat) (Option.some Jvm.ClassFile.FieldType.int)) ∈ tbG := tb_mem 341 (by decide +kernel) (by decide +kernel)
theorem tb_342 : (Jvm.Cond.methodLink "StreetSides$Net" (58 : Nat) ({ cls := "StreetSides$Net", name := "canBeDriven", desc := "(I)Z" } : Jvm.MethodName)) ∈ tbG := tb_mem 342 (by decide +kernel) (by decide +kernel)
theorem tb_344 : (Jvm.Cond.instanceMethod ({ cls := "StreetSides$Net", name := "canBeDriven", desc := "(I)Z" } : Jvm.MethodName)) ∈ tbG := tb_mem 344 (by decide +kernel) (by decide +kernel)
theorem tb_345 : (Jvm.Cond.code ({ cls := "StreetSides$Net", name := "canBeDriven", desc := "(I)Z" } : Jvm.MethodName) prog_4_method_2_code (3 : Nat) (Option.some Jvm.ClassFile.FieldType.boolean)) ∈ tbG := tb_mem 345 (by decide +kernel) (by decide +kernel)
theorem tb_347 : (Jvm.Cond.methodLink "StreetSides$Net" (44 : Nat) ({ cls := "StreetSides$Streets", name := "hasWay", desc := "(II)Z" } : Jvm.MethodName)) ∈ tbG := tb_mem 347 (by decide +kernel) (by decide +kernel)
theorem tb_348 : (Jvm.Cond.instanceMethod ({ cls := "StreetSides$Streets", name := "hasWay", desc := "(II)Z" } : Jvm.MethodName)) ∈ tbG := tb_mem 348 (by decide +kernel) (by decide +kernel)
theorem tb_349 : (Jvm.Cond.selects "StreetSides$Streets" ({ cls := "StreetSides$Streets", name := "hasWay", desc := "(II)Z" } : Jvm.MethodName) ({ cls := "StreetSides$Streets", name := "hasWay", desc := "(II)Z" } : Jvm.MethodName)) ∈ tbG := tb_mem 349 (by decide +kernel) (by decide +kernel)
theorem tb_350 : (Jvm.Cond.code ({ cls := "StreetSides$Streets", name := "hasWay", desc := "(II)Z" } : Jvm.MethodName) prog_7_method_19_code (3 : Nat) (Option.some Jvm.ClassFile.FieldType.boolean)) ∈ tbG := tb_mem 350 (by decide +kernel) (by decide +kernel)
theorem tb_351 : (Jvm.Cond.methodLink "StreetSides$Net" (48 : Nat) ({ cls := "StreetSides$Streets", name := "greatestOf", desc := "(II)J" } : Jvm.MethodName)) ∈ tbG := tb_mem 351 (by decide +kernel) (by decide +kernel)
theorem tb_352 : (Jvm.Cond.instanceMethod ({ cls := "StreetSides$Streets", name := "greatestOf", desc := "(II)J" } : Jvm.MethodName)) ∈ tbG := tb_mem 352 (by decide +kernel) (by decide +kernel)
theorem tb_353 : (Jvm.Cond.selects "StreetSides$Streets" ({ cls := "StreetSides$Streets", name := "greatestOf", desc := "(II)J" } : Jvm.MethodName) ({ cls := "StreetSides$Streets", name := "greatestOf", desc := "(II)J" } : Jvm.MethodName)) ∈ tbG := tb_mem 353 (by decide +kernel) (by decide +kernel)
theorem tb_354 : (Jvm.Cond.code ({ cls := "StreetSides$Streets", name := "greatestOf", desc := "(II)J" } : Jvm.MethodName) prog_7_method_8_code (3 : Nat) (Option.some Jvm.ClassFile.FieldType.long)) ∈ tbG := tb_mem 354 (by decide +kernel) (by decide +kernel)
theorem tb_355 : (Jvm.Cond.methodLink "StreetSides$Net" (62 : Nat) ({ cls := "StreetSides$Nodes", name := "isTurningPlace", desc := "(I)Z" } : Jvm.MethodName)) ∈ tbG := tb_mem 355 (by decide +kernel) (by decide +kernel)
theorem tb_356 : (Jvm.Cond.instanceMethod ({ cls := "StreetSides$Nodes", name := "isTurningPlace", desc := "(I)Z" } : Jvm.MethodName)) ∈ tbG := tb_mem 356 (by decide +kernel) (by decide +kernel)
theorem tb_357 : (Jvm.Cond.selects "StreetSides$Nodes" ({ cls := "StreetSides$Nodes", name := "isTurningPlace", desc := "(I)Z" } : Jvm.MethodName) ({ cls := "StreetSides$Nodes", name := "isTurningPlace", desc := "(I)Z" } : Jvm.MethodName)) ∈ tbG := tb_mem 357 (by decide +kernel) (by decide +kernel)
theorem tb_358 : (Jvm.Cond.code ({ cls := "StreetSides$Nodes", name := "isTurningPlace", desc := "(I)Z" } : Jvm.MethodName) prog_5_method_6_code (2 : Nat) (Option.some Jvm.ClassFile.FieldType.boolean)) ∈ tbG := tb_mem 358 (by decide +kernel) (by decide +kernel)
theorem tb_359 : (Jvm.Cond.methodLink "StreetSides$Net" (65 : Nat) ({ cls := "StreetSides$Turns", name := "isBarred", desc := "(II)Z" } : Jvm.MethodName)) ∈ tbG := tb_mem 359 (by decide +kernel) (by decide +kernel)
theorem tb_360 : (Jvm.Cond.instanceMethod ({ cls := "StreetSides$Turns", name := "isBarred", desc := "(II)Z" } : Jvm.MethodName)) ∈ tbG := tb_mem 360 (by decide +kernel) (by decide +kernel)
theorem tb_361 : (Jvm.Cond.selects "StreetSides$Turns" ({ cls := "StreetSides$Turns", name := "isBarred", desc := "(II)Z" } : Jvm.MethodName) ({ cls := "StreetSides$Turns", name := "isBarred", desc := "(II)Z" } : Jvm.MethodName)) ∈ tbG := tb_mem 361 (by decide +kernel) (by decide +kernel)
theorem tb_362 : (Jvm.Cond.code ({ cls := "StreetSides$Turns", name := "isBarred", desc := "(II)Z" } : Jvm.MethodName) prog_8_method_4_code (3 : Nat) (Option.some Jvm.ClassFile.FieldType.boolean)) ∈ tbG := tb_mem 362 (by decide +kernel) (by decide +kernel)
theorem tb_363 : (Jvm.Cond.methodLink "StreetSides$Net" (71 : Nat) ({ cls := "StreetSides$Turns", name := "secondsOf", desc := "(II)I" } : Jvm.MethodName)) ∈ tbG := tb_mem 363 (by decide +kernel) (by decide +kernel)
theorem tb_364 : (Jvm.Cond.instanceMethod ({ cls := "StreetSides$Turns", name := "secondsOf", desc := "(II)I" } : Jvm.MethodName)) ∈ tbG := tb_mem 364 (by decide +kernel) (by decide +kernel)
theorem tb_365 : (Jvm.Cond.selects "StreetSides$Turns" ({ cls := "StreetSides$Turns", name := "secondsOf", desc := "(II)I" } : Jvm.MethodName) ({ cls := "StreetSides$Turns", name := "secondsOf", desc := "(II)I" } : Jvm.MethodName)) ∈ tbG := tb_mem 365 (by decide +kernel) (by decide +kernel)
theorem tb_366 : (Jvm.Cond.code ({ cls := "StreetSides$Turns", name := "secondsOf", desc := "(II)I" } : Jvm.MethodName) prog_8_method_3_code (3 : Nat) (Option.some Jvm.ClassFile.FieldType.int)) ∈ tbG := tb_mem 366 (by decide +kernel) (by decide +kernel)
theorem tb_367 : (Jvm.Cond.methodLink "StreetSides$Net" (75 : Nat) ({ cls := "StreetSides$Streets", name := "beginning", desc := "(II)I" } : Jvm.MethodName)) ∈ tbG := tb_mem 367 (by decide +kernel) (by decide +kernel)
theorem tb_368 : (Jvm.Cond.instanceMethod ({ cls := "StreetSides$Streets", name := "beginning", desc := "(II)I" } : Jvm.MethodName)) ∈ tbG := tb_mem 368 (by decide +kernel) (by decide +kernel)
theorem tb_369 : (Jvm.Cond.selects "StreetSides$Streets" ({ cls := "StreetSides$Streets", name := "beginning", desc := "(II)I" } : Jvm.MethodName) ({ cls := "StreetSides$Streets", name := "beginning", desc := "(II)I" } : Jvm.MethodName)) ∈ tbG := tb_mem 369 (by decide +kernel) (by decide +kernel)
theorem tb_370 : (Jvm.Cond.code ({ cls := "StreetSides$Streets", name := "beginning", desc := "(II)I" } : Jvm.MethodName) prog_7_method_20_code (6 : Nat) (Option.some Jvm.ClassFile.FieldType.int)) ∈ tbG := tb_mem 370 (by decide +kernel) (by decide +kernel)
theorem tb_371 : (Jvm.Cond.constant "StreetSides$Streets" (66 : Nat) (86400 : Int32)) ∈ tbG := tb_mem 371 (by decide +kernel) (by decide +kernel)
theorem tb_372 : (Jvm.Cond.methodLink "StreetSides$Streets" (67 : Nat) ({ cls := "StreetSides$Streets", name := "isClosed", desc := "(II)Z" } : Jvm.MethodName)) ∈ tbG := tb_mem 372 (by decide +kernel) (by decide +kernel)
theorem tb_374 : (Jvm.Cond.instanceMethod ({ cls := "StreetSides$Streets", name := "isClosed", desc := "(II)Z" } : Jvm.MethodName)) ∈ tbG := tb_mem 374 (by decide +kernel) (by decide +kernel)
theorem tb_375 : (Jvm.Cond.code ({ cls := "StreetSides$Streets", name := "isClosed", desc := "(II)Z" } : Jvm.MethodName) prog_7_method_10_code (3 : Nat) (Option.some Jvm.ClassFile.FieldType.boolean)) ∈ tbG := tb_mem 375 (by decide +kernel) (by decide +kernel)
theorem tb_376 : (Jvm.Cond.methodLink "StreetSides$Streets" (71 : Nat) ({ cls := "java/lang/Math", name := "max", desc := "(II)I" } : Jvm.MethodName)) ∈ tbG := tb_mem 376 (by decide +kernel) (by decide +kernel)
theorem tb_377 : (Jvm.Cond.static ({ cls := "java/lang/Math", name := "max", desc := "(II)I" } : Jvm.MethodName)) ∈ tbG := tb_mem 377 (by decide +kernel) (by decide +kernel)
theorem tb_378 : (Jvm.Cond.code ({ cls := "java/lang/Math", name := "max", desc := "(II)I" } : Jvm.MethodName) prog_11_method_65_code (2 : Nat) (Option.some Jvm.ClassFile.FieldType.int)) ∈ tbG := tb_mem 378 (by decide +kernel) (by decide +kernel)
theorem tb_379 : (Jvm.Cond.methodLink "StreetSides$Net" (78 : Nat) ({ cls := "StreetSides$Streets", name := "secondsOf", desc := "(I)I" } : Jvm.MethodName)) ∈ tbG := tb_mem 379 (by decide +kernel) (by decide +kernel)
theorem tb_380 : (Jvm.Cond.instanceMethod ({ cls := "StreetSides$Streets", name := "secondsOf", desc := "(I)I" } : Jvm.MethodName)) ∈ tbG := tb_mem 380 (by decide +kernel) (by decide +kernel)
theorem tb_381 : (Jvm.Cond.selects "StreetSides$Streets" ({ cls := "StreetSides$Streets", name := "secondsOf", desc := "(I)I" } : Jvm.MethodName) ({ cls := "StreetSides$Streets", name := "secondsOf", desc := "(I)I" } : Jvm.MethodName)) ∈ tbG := tb_mem 381 (by decide +kernel) (by decide +kernel)
theorem tb_382 : (Jvm.Cond.code ({ cls := "StreetSides$Streets", name := "secondsOf", desc := "(I)I" } : Jvm.MethodName) prog_7_method_13_code (2 : Nat) (Option.some Jvm.ClassFile.FieldType.int)) ∈ tbG := tb_mem 382 (by decide +kernel) (by decide +kernel)
theorem tb_383 : (Jvm.Cond.methodLink "StreetSides" (114 : Nat) ({ cls := "StreetSides$Search", name := "comesTo", desc := "(I)Z" } : Jvm.MethodName)) ∈ tbG := tb_mem 383 (by decide +kernel) (by decide +kernel)
theorem tb_384 : (Jvm.Cond.instanceMethod ({ cls := "StreetSides$Search", name := "comesTo", desc := "(I)Z" } : Jvm.MethodName)) ∈ tbG := tb_mem 384 (by decide +kernel) (by decide +kernel)
theorem tb_385 : (Jvm.Cond.selects "StreetSides$Search" ({ cls := "StreetSides$Search", name := "comesTo", desc := "(I)Z" } : Jvm.MethodName) ({ cls := "StreetSides$Search", name := "comesTo", desc := "(I)Z" } : Jvm.MethodName)) ∈ tbG := tb_mem 385 (by decide +kernel) (by decide +kernel)
theorem tb_386 : (Jvm.Cond.code ({ cls := "StreetSides$Search", name := "comesTo", desc := "(I)Z" } : Jvm.MethodName) prog_6_method_6_code (2 : Nat) (Option.some Jvm.ClassFile.FieldType.boolean)) ∈ tbG := tb_mem 386 (by decide +kernel) (by decide +kernel)
theorem tb_387 : (Jvm.Cond.methodLink "StreetSides" (117 : Nat) ({ cls := "StreetSides$Search", name := "markLeading", desc := "(LStreetSides$Net;I)V" } : Jvm.MethodName)) ∈ tbG := tb_mem 387 (by decide +kernel) (by decide +kernel)
theorem tb_388 : (Jvm.Cond.instanceMethod ({ cls := "StreetSides$Search", name := "markLeading", desc := "(LStreetSides$Net;I)V" } : Jvm.MethodName)) ∈ tbG := tb_mem 388 (by decide +kernel) (by decide +kernel)
theorem tb_389 : (Jvm.Cond.selects "StreetSides$Search" ({ cls := "StreetSides$Search", name := "markLeading", desc := "(LStreetSides$Net;I)V" } : Jvm.MethodName) ({ cls := "StreetSides$Search", name := "markLeading", desc := "(LStreetSides$Net;I)V" } : Jvm.MethodName)) ∈ tbG := tb_mem 389 (by decide +kernel) (by decide +kernel)
theorem tb_390 : (Jvm.Cond.code ({ cls := "StreetSides$Search", name := "markLeading", desc := "(LStreetSides$Net;I)V" } : Jvm.MethodName) prog_6_method_8_code (4 : Nat) (Option.none : Option Jvm.ClassFile.FieldType)) ∈ tbG := tb_mem 390 (by decide +kernel) (by decide +kernel)
theorem tb_391 : (Jvm.Cond.methodLink "StreetSides$Search" (60 : Nat) ({ cls := "StreetSides$Search", name := "firstLeading", desc := "(LStreetSides$Net;I)I" } : Jvm.MethodName)) ∈ tbG := tb_mem 391 (by decide +kernel) (by decide +kernel)
theorem tb_393 : (Jvm.Cond.instanceMethod ({ cls := "StreetSides$Search", name := "firstLeading", desc := "(LStreetSides$Net;I)I" } : Jvm.MethodName)) ∈ tbG := tb_mem 393 (by decide +kernel) (by decide +kernel)
theorem tb_394 : (Jvm.Cond.code ({ cls := "StreetSides$Search", name := "firstLeading", desc := "(LStreetSides$Net;I)I" } : Jvm.MethodName) prog_6_method_9_code (4 : Nat) (Option.some Jvm.ClassFile.FieldType.int)) ∈ tbG := tb_mem 394 (by decide +kernel) (by decide +kernel)
theorem tb_395 : (Jvm.Cond.methodLink "StreetSides" (121 : Nat) ({ cls := "StreetSides$Search", name := "trace", desc := "(LStreetSides$Net;IILStreetSides$HeldWay;)V" } : Jvm.MethodName)) ∈ tbG := tb_mem 395 (by decide +kernel) (by decide +kernel)
theorem tb_396 : (Jvm.Cond.instanceMethod ({ cls := "StreetSides$Search", name := "trace", desc := "(LStreetSides$Net;IILStreetSides$HeldWay;)V" } : Jvm.MethodName)) ∈ tbG := tb_mem 396 (by decide +kernel) (by decide +kernel)
theorem tb_397 : (Jvm.Cond.selects "StreetSides$Search" ({ cls := "StreetSides$Search", name := "trace", desc := "(LStreetSides$Net;IILStreetSides$HeldWay;)V" } : Jvm.MethodName) ({ cls := "StreetSides$Search", name := "trace", desc := "(LStreetSides$Net;IILStreetSides$HeldWay;)V" } : Jvm.MethodName)) ∈ tbG := tb_mem 397 (by decide +kernel) (by decide +kernel)
theorem tb_398 : (Jvm.Cond.code ({ cls := "StreetSides$Search", name := "trace", desc := "(LStreetSides$Net;IILStreetSides$HeldWay;)V" } : Jvm.MethodName) prog_6_method_10_code (8 : Nat) (Option.none : Option Jvm.ClassFile.FieldType)) ∈ tbG := tb_mem 398 (by decide +kernel) (by decide +kernel)
theorem tb_400 : (Jvm.Cond.methodLink "StreetSides$Search" (67 : Nat) ({ cls := "StreetSides$Streets", name := "secondsOf", desc := "(I)I" } : Jvm.MethodName)) ∈ tbG := tb_mem 400 (by decide +kernel) (by decide +kernel)
theorem tb_401 : (Jvm.Cond.methodLink "StreetSides$Search" (70 : Nat) ({ cls := "StreetSides$HeldWay", name := "append", desc := "(II)V" } : Jvm.MethodName)) ∈ tbG := tb_mem 401 (by decide +kernel) (by decide +kernel)
theorem tb_402 : (Jvm.Cond.instanceMethod ({ cls := "StreetSides$HeldWay", name := "append", desc := "(II)V" } : Jvm.MethodName)) ∈ tbG := tb_mem 402 (by decide +kernel) (by decide +kernel)
theorem tb_403 : (Jvm.Cond.selects "StreetSides$HeldWay" ({ cls := "StreetSides$HeldWay", name := "append", desc := "(II)V" } : Jvm.MethodName) ({ cls := "StreetSides$HeldWay", name := "append", desc := "(II)V" } : Jvm.MethodName)) ∈ tbG := tb_mem 403 (by decide +kernel) (by decide +kernel)
theorem tb_404 : (Jvm.Cond.code ({ cls := "StreetSides$HeldWay", name := "append", desc := "(II)V" } : Jvm.MethodName) prog_2_method_3_code (3 : Nat) (Option.none : Option Jvm.ClassFile.FieldType)) ∈ tbG := tb_mem 404 (by decide +kernel) (by decide +kernel)
theorem tb_405 : (Jvm.Cond.methodLink "StreetSides" (125 : Nat) ({ cls := "StreetSides$Search", name := "earliestAt", desc := "(I)I" } : Jvm.MethodName)) ∈ tbG := tb_mem 405 (by decide +kernel) (by decide +kernel)
theorem tb_406 : (Jvm.Cond.instanceMethod ({ cls := "StreetSides$Search", name := "earliestAt", desc := "(I)I" } : Jvm.MethodName)) ∈ tbG := tb_mem 406 (by decide +kernel) (by decide +kernel)
theorem tb_407 : (Jvm.Cond.selects "StreetSides$Search" ({ cls := "StreetSides$Search", name := "earliestAt", desc := "(I)I" } : Jvm.MethodName) ({ cls := "StreetSides$Search", name := "earliestAt", desc := "(I)I" } : Jvm.MethodName)) ∈ tbG := tb_mem 407 (by decide +kernel) (by decide +kernel)
theorem tb_408 : (Jvm.Cond.code ({ cls := "StreetSides$Search", name := "earliestAt", desc := "(I)I" } : Jvm.MethodName) prog_6_method_7_code (2 : Nat) (Option.some Jvm.ClassFile.FieldType.int)) ∈ tbG := tb_mem 408 (by decide +kernel) (by decide +kernel)
theorem tb_409 : (Jvm.Cond.methodLink "StreetSidesLaw" (55 : Nat) ({ cls := "StreetSides", name := "way", desc := "(I)I" } : Jvm.MethodName)) ∈ tbG := tb_mem 409 (by decide +kernel) (by decide +kernel)
theorem tb_410 : (Jvm.Cond.instanceMethod ({ cls := "StreetSides", name := "way", desc := "(I)I" } : Jvm.MethodName)) ∈ tbG := tb_mem 410 (by decide +kernel) (by decide +kernel)
theorem tb_411 : (Jvm.Cond.selects "StreetSides" ({ cls := "StreetSides", name := "way", desc := "(I)I" } : Jvm.MethodName) ({ cls := "StreetSides", name := "way", desc := "(I)I" } : Jvm.MethodName)) ∈ tbG := tb_mem 411 (by decide +kernel) (by decide +kernel)
theorem tb_412 : (Jvm.Cond.code ({ cls := "StreetSides", name := "way", desc := "(I)I" } : Jvm.MethodName) prog_1_method_10_code (2 : Nat) (Option.some Jvm.ClassFile.FieldType.int)) ∈ tbG := tb_mem 412 (by decide +kernel) (by decide +kernel)
theorem tb_413 : (Jvm.Cond.methodLink "StreetSides" (129 : Nat) ({ cls := "StreetSides$HeldWay", name := "has", desc := "(I)Z" } : Jvm.MethodName)) ∈ tbG := tb_mem 413 (by decide +kernel) (by decide +kernel)
theorem tb_414 : (Jvm.Cond.instanceMethod ({ cls := "StreetSides$HeldWay", name := "has", desc := "(I)Z" } : Jvm.MethodName)) ∈ tbG := tb_mem 414 (by decide +kernel) (by decide +kernel)
theorem tb_415 : (Jvm.Cond.selects "StreetSides$HeldWay" ({ cls := "StreetSides$HeldWay", name := "has", desc := "(I)Z" } : Jvm.MethodName) ({ cls := "StreetSides$HeldWay", name := "has", desc := "(I)Z" } : Jvm.MethodName)) ∈ tbG := tb_mem 415 (by decide +kernel) (by decide +kernel)
theorem tb_416 : (Jvm.Cond.code ({ cls := "StreetSides$HeldWay", name := "has", desc := "(I)Z" } : Jvm.MethodName) prog_2_method_4_code (2 : Nat) (Option.some Jvm.ClassFile.FieldType.boolean)) ∈ tbG := tb_mem 416 (by decide +kernel) (by decide +kernel)
theorem tb_417 : (Jvm.Cond.methodLink "StreetSides" (130 : Nat) ({ cls := "StreetSides$HeldWay", name := "sideAt", desc := "(I)I" } : Jvm.MethodName)) ∈ tbG := tb_mem 417 (by decide +kernel) (by decide +kernel)
theorem tb_418 : (Jvm.Cond.instanceMethod ({ cls := "StreetSides$HeldWay", name := "sideAt", desc := "(I)I" } : Jvm.MethodName)) ∈ tbG := tb_mem 418 (by decide +kernel) (by decide +kernel)
theorem tb_419 : (Jvm.Cond.selects "StreetSides$HeldWay" ({ cls := "StreetSides$HeldWay", name := "sideAt", desc := "(I)I" } : Jvm.MethodName) ({ cls := "StreetSides$HeldWay", name := "sideAt", desc := "(I)I" } : Jvm.MethodName)) ∈ tbG := tb_mem 419 (by decide +kernel) (by decide +kernel)
theorem tb_420 : (Jvm.Cond.code ({ cls := "StreetSides$HeldWay", name := "sideAt", desc := "(I)I" } : Jvm.MethodName) prog_2_method_5_code (2 : Nat) (Option.some Jvm.ClassFile.FieldType.int)) ∈ tbG := tb_mem 420 (by decide +kernel) (by decide +kernel)
theorem tb_421 : (Jvm.Cond.methodLink "StreetSidesLaw" (60 : Nat) ({ cls := "StreetSides", name := "begun", desc := "(I)I" } : Jvm.MethodName)) ∈ tbG := tb_mem 421 (by decide +kernel) (by decide +kernel)
theorem tb_422 : (Jvm.Cond.instanceMethod ({ cls := "StreetSides", name := "begun", desc := "(I)I" } : Jvm.MethodName)) ∈ tbG := tb_mem 422 (by decide +kernel) (by decide +kernel)
theorem tb_423 : (Jvm.Cond.selects "StreetSides" ({ cls := "StreetSides", name := "begun", desc := "(I)I" } : Jvm.MethodName) ({ cls := "StreetSides", name := "begun", desc := "(I)I" } : Jvm.MethodName)) ∈ tbG := tb_mem 423 (by decide +kernel) (by decide +kernel)
theorem tb_424 : (Jvm.Cond.code ({ cls := "StreetSides", name := "begun", desc := "(I)I" } : Jvm.MethodName) prog_1_method_11_code (2 : Nat) (Option.some Jvm.ClassFile.FieldType.int)) ∈ tbG := tb_mem 424 (by decide +kernel) (by decide +kernel)
theorem tb_425 : (Jvm.Cond.methodLink "StreetSides" (133 : Nat) ({ cls := "StreetSides$HeldWay", name := "secondAt", desc := "(I)I" } : Jvm.MethodName)) ∈ tbG := tb_mem 425 (by decide +kernel) (by decide +kernel)
theorem tb_426 : (Jvm.Cond.instanceMethod ({ cls := "StreetSides$HeldWay", name := "secondAt", desc := "(I)I" } : Jvm.MethodName)) ∈ tbG := tb_mem 426 (by decide +kernel) (by decide +kernel)
theorem tb_427 : (Jvm.Cond.selects "StreetSides$HeldWay" ({ cls := "StreetSides$HeldWay", name := "secondAt", desc := "(I)I" } : Jvm.MethodName) ({ cls := "StreetSides$HeldWay", name := "secondAt", desc := "(I)I" } : Jvm.MethodName)) ∈ tbG := tb_mem 427 (by decide +kernel) (by decide +kernel)
theorem tb_428 : (Jvm.Cond.code ({ cls := "StreetSides$HeldWay", name := "secondAt", desc := "(I)I" } : Jvm.MethodName) prog_2_method_6_code (2 : Nat) (Option.some Jvm.ClassFile.FieldType.int)) ∈ tbG := tb_mem 428 (by decide +kernel) (by decide +kernel)
theorem tb_429 : (Jvm.Cond.methodLink "StreetSidesLaw" (64 : Nat) ({ cls := "StreetSides", name := "plain", desc := "(II)I" } : Jvm.MethodName)) ∈ tbG := tb_mem 429 (by decide +kernel) (by decide +kernel)
theorem tb_430 : (Jvm.Cond.instanceMethod ({ cls := "StreetSides", name := "plain", desc := "(II)I" } : Jvm.MethodName)) ∈ tbG := tb_mem 430 (by decide +kernel) (by decide +kernel)
theorem tb_431 : (Jvm.Cond.selects "StreetSides" ({ cls := "StreetSides", name := "plain", desc := "(II)I" } : Jvm.MethodName) ({ cls := "StreetSides", name := "plain", desc := "(II)I" } : Jvm.MethodName)) ∈ tbG := tb_mem 431 (by decide +kernel) (by decide +kernel)
theorem tb_432 : (Jvm.Cond.code ({ cls := "StreetSides", name := "plain", desc := "(II)I" } : Jvm.MethodName) prog_1_method_12_code (3 : Nat) (Option.some Jvm.ClassFile.FieldType.int)) ∈ tbG := tb_mem 432 (by decide +kernel) (by decide +kernel)
theorem tb_433 : (Jvm.Cond.methodLink "StreetSides" (136 : Nat) ({ cls := "StreetSides$Search", name := "fewestSides", desc := "(LStreetSides$Net;II)I" } : Jvm.MethodName)) ∈ tbG := tb_mem 433 (by decide +kernel) (by decide +kernel)
theorem tb_434 : (Jvm.Cond.instanceMethod ({ cls := "StreetSides$Search", name := "fewestSides", desc := "(LStreetSides$Net;II)I" } : Jvm.MethodName)) ∈ tbG := tb_mem 434 (by decide +kernel) (by decide +kernel)
theorem tb_435 : (Jvm.Cond.selects "StreetSides$Search" ({ cls := "StreetSides$Search", name := "fewestSides", desc := "(LStreetSides$Net;II)I" } : Jvm.MethodName) ({ cls := "StreetSides$Search", name := "fewestSides", desc := "(LStreetSides$Net;II)I" } : Jvm.MethodName)) ∈ tbG := tb_mem 435 (by decide +kernel) (by decide +kernel)
theorem tb_436 : (Jvm.Cond.code ({ cls := "StreetSides$Search", name := "fewestSides", desc := "(LStreetSides$Net;II)I" } : Jvm.MethodName) prog_6_method_11_code (7 : Nat) (Option.some Jvm.ClassFile.FieldType.int)) ∈ tbG := tb_mem 436 (by decide +kernel) (by decide +kernel)
theorem tb_437 : (Jvm.Cond.methodLink "StreetSides$Search" (76 : Nat) ({ cls := "StreetSides$Search", name := "stepOnFrom", desc := "(LStreetSides$Net;I)V" } : Jvm.MethodName)) ∈ tbG := tb_mem 437 (by decide +kernel) (by decide +kernel)
theorem tb_439 : (Jvm.Cond.instanceMethod ({ cls := "StreetSides$Search", name := "stepOnFrom", desc := "(LStreetSides$Net;I)V" } : Jvm.MethodName)) ∈ tbG := tb_mem 439 (by decide +kernel) (by decide +kernel)
theorem tb_440 : (Jvm.Cond.code ({ cls := "StreetSides$Search", name := "stepOnFrom", desc := "(LStreetSides$Net;I)V" } : Jvm.MethodName) prog_6_method_12_code (4 : Nat) (Option.none : Option Jvm.ClassFile.FieldType)) ∈ tbG := tb_mem 440 (by decide +kernel) (by decide +kernel)
theorem tb_441 : (Jvm.Cond.methodLink "StreetSides$Search" (79 : Nat) ({ cls := "StreetSides$Net", name := "goesOn", desc := "(II)Z" } : Jvm.MethodName)) ∈ tbG := tb_mem 441 (by decide +kernel) (by decide +kernel)
theorem tb_442 : (Jvm.Cond.methodLink "StreetSidesLaw" (69 : Nat) ({ cls := "StreetSides", name := "need", desc := "(II)I" } : Jvm.MethodName)) ∈ tbG := tb_mem 442 (by decide +kernel) (by decide +kernel)
theorem tb_443 : (Jvm.Cond.instanceMethod ({ cls := "StreetSides", name := "need", desc := "(II)I" } : Jvm.MethodName)) ∈ tbG := tb_mem 443 (by decide +kernel) (by decide +kernel)
theorem tb_444 : (Jvm.Cond.selects "StreetSides" ({ cls := "StreetSides", name := "need", desc := "(II)I" } : Jvm.MethodName) ({ cls := "StreetSides", name := "need", desc := "(II)I" } : Jvm.MethodName)) ∈ tbG := tb_mem 444 (by decide +kernel) (by decide +kernel)
theorem tb_445 : (Jvm.Cond.code ({ cls := "StreetSides", name := "need", desc := "(II)I" } : Jvm.MethodName) prog_1_method_13_code (3 : Nat) (Option.some Jvm.ClassFile.FieldType.int)) ∈ tbG := tb_mem 445 (by decide +kernel) (by decide +kernel)
theorem tb_446 : (Jvm.Cond.methodLink "StreetSides" (140 : Nat) ({ cls := "StreetSides$Needs", name := "add", desc := "(I)I" } : Jvm.MethodName)) ∈ tbG := tb_mem 446 (by decide +kernel) (by decide +kernel)
theorem tb_447 : (Jvm.Cond.instanceMethod ({ cls := "StreetSides$Needs", name := "add", desc := "(I)I" } : Jvm.MethodName)) ∈ tbG := tb_mem 447 (by decide +kernel) (by decide +kernel)
theorem tb_448 : (Jvm.Cond.selects "StreetSides$Needs" ({ cls := "StreetSides$Needs", name := "add", desc := "(I)I" } : Jvm.MethodName) ({ cls := "StreetSides$Needs", name := "add", desc := "(I)I" } : Jvm.MethodName)) ∈ tbG := tb_mem 448 (by decide +kernel) (by decide +kernel)
theorem tb_449 : (Jvm.Cond.code ({ cls := "StreetSides$Needs", name := "add", desc := "(I)I" } : Jvm.MethodName) prog_3_method_2_code (2 : Nat) (Option.some Jvm.ClassFile.FieldType.int)) ∈ tbG := tb_mem 449 (by decide +kernel) (by decide +kernel)
theorem tb_450 : (Jvm.Cond.methodLink "StreetSidesLaw" (73 : Nat) ({ cls := "StreetSides", name := "joined", desc := "(II)I" } : Jvm.MethodName)) ∈ tbG := tb_mem 450 (by decide +kernel) (by decide +kernel)
theorem tb_451 : (Jvm.Cond.instanceMethod ({ cls := "StreetSides", name := "joined", desc := "(II)I" } : Jvm.MethodName)) ∈ tbG := tb_mem 451 (by decide +kernel) (by decide +kernel)
theorem tb_452 : (Jvm.Cond.selects "StreetSides" ({ cls := "StreetSides", name := "joined", desc := "(II)I" } : Jvm.MethodName) ({ cls := "StreetSides", name := "joined", desc := "(II)I" } : Jvm.MethodName)) ∈ tbG := tb_mem 452 (by decide +kernel) (by decide +kernel)
theorem tb_453 : (Jvm.Cond.code ({ cls := "StreetSides", name := "joined", desc := "(II)I" } : Jvm.MethodName) prog_1_method_14_code (5 : Nat) (Option.some Jvm.ClassFile.FieldType.int)) ∈ tbG := tb_mem 453 (by decide +kernel) (by decide +kernel)
theorem tb_454 : (Jvm.Cond.methodLink "StreetSides" (142 : Nat) ({ cls := "StreetSides$Needs", name := "has", desc := "(I)Z" } : Jvm.MethodName)) ∈ tbG := tb_mem 454 (by decide +kernel) (by decide +kernel)
theorem tb_455 : (Jvm.Cond.instanceMethod ({ cls := "StreetSides$Needs", name := "has", desc := "(I)Z" } : Jvm.MethodName)) ∈ tbG := tb_mem 455 (by decide +kernel) (by decide +kernel)
theorem tb_456 : (Jvm.Cond.selects "StreetSides$Needs" ({ cls := "StreetSides$Needs", name := "has", desc := "(I)Z" } : Jvm.MethodName) ({ cls := "StreetSides$Needs", name := "has", desc := "(I)Z" } : Jvm.MethodName)) ∈ tbG := tb_mem 456 (by decide +kernel) (by decide +kernel)
theorem tb_457 : (Jvm.Cond.code ({ cls := "StreetSides$Needs", name := "has", desc := "(I)Z" } : Jvm.MethodName) prog_3_method_3_code (2 : Nat) (Option.some Jvm.ClassFile.FieldType.boolean)) ∈ tbG := tb_mem 457 (by decide +kernel) (by decide +kernel)
theorem tb_458 : (Jvm.Cond.methodLink "StreetSides" (143 : Nat) ({ cls := "StreetSides$Needs", name := "sideAt", desc := "(I)I" } : Jvm.MethodName)) ∈ tbG := tb_mem 458 (by decide +kernel) (by decide +kernel)
theorem tb_459 : (Jvm.Cond.instanceMethod ({ cls := "StreetSides$Needs", name := "sideAt", desc := "(I)I" } : Jvm.MethodName)) ∈ tbG := tb_mem 459 (by decide +kernel) (by decide +kernel)
theorem tb_460 : (Jvm.Cond.selects "StreetSides$Needs" ({ cls := "StreetSides$Needs", name := "sideAt", desc := "(I)I" } : Jvm.MethodName) ({ cls := "StreetSides$Needs", name := "sideAt", desc := "(I)I" } : Jvm.MethodName)) ∈ tbG := tb_mem 460 (by decide +kernel) (by decide +kernel)
theorem tb_461 : (Jvm.Cond.code ({ cls := "StreetSides$Needs", name := "sideAt", desc := "(I)I" } : Jvm.MethodName) prog_3_method_4_code (2 : Nat) (Option.some Jvm.ClassFile.FieldType.int)) ∈ tbG := tb_mem 461 (by decide +kernel) (by decide +kernel)
theorem tb_462 : (Jvm.Cond.methodLink "StreetSides" (144 : Nat) ({ cls := "StreetSides$Net", name := "goesOn", desc := "(II)Z" } : Jvm.MethodName)) ∈ tbG := tb_mem 462 (by decide +kernel) (by decide +kernel)
theorem tb_463 : (Jvm.Cond.methodLink "StreetSidesLaw" (77 : Nat) ({ cls := "StreetSides", name := "pieces", desc := "()I" } : Jvm.MethodName)) ∈ tbG := tb_mem 463 (by decide +kernel) (by decide +kernel)
theorem tb_464 : (Jvm.Cond.instanceMethod ({ cls := "StreetSides", name := "pieces", desc := "()I" } : Jvm.MethodName)) ∈ tbG := tb_mem 464 (by decide +kernel) (by decide +kernel)
theorem tb_465 : (Jvm.Cond.selects "StreetSides" ({ cls := "StreetSides", name := "pieces", desc := "()I" } : Jvm.MethodName) ({ cls := "StreetSides", name := "pieces", desc := "()I" } : Jvm.MethodName)) ∈ tbG := tb_mem 465 (by decide +kernel) (by decide +kernel)
theorem tb_466 : (Jvm.Cond.code ({ cls := "StreetSides", name := "pieces", desc := "()I" } : Jvm.MethodName) prog_1_method_15_code (1 : Nat) (Option.some Jvm.ClassFile.FieldType.int)) ∈ tbG := tb_mem 466 (by decide +kernel) (by decide +kernel)
theorem tb_467 : (Jvm.Cond.methodLink "StreetSides" (147 : Nat) ({ cls := "StreetSides$Net", name := "countPieces", desc := "()I" } : Jvm.MethodName)) ∈ tbG := tb_mem 467 (by decide +kernel) (by decide +kernel)
theorem tb_468 : (Jvm.Cond.instanceMethod ({ cls := "StreetSides$Net", name := "countPieces", desc := "()I" } : Jvm.MethodName)) ∈ tbG := tb_mem 468 (by decide +kernel) (by decide +kernel)
theorem tb_469 : (Jvm.Cond.selects "StreetSides$Net" ({ cls := "StreetSides$Net", name := "countPieces", desc := "()I" } : Jvm.MethodName) ({ cls := "StreetSides$Net", name := "countPieces", desc := "()I" } : Jvm.MethodName)) ∈ tbG := tb_mem 469 (by decide +kernel) (by decide +kernel)
theorem tb_470 : (Jvm.Cond.code ({ cls := "StreetSides$Net", name := "countPieces", desc := "()I" } : Jvm.MethodName) prog_4_method_5_code (5 : Nat) (Option.some Jvm.ClassFile.FieldType.int)) ∈ tbG := tb_mem 470 (by decide +kernel) (by decide +kernel)
theorem tb_471 : (Jvm.Cond.methodLink "StreetSides$Net" (80 : Nat) ({ cls := "StreetSides$Nodes", name := "size", desc := "()I" } : Jvm.MethodName)) ∈ tbG := tb_mem 471 (by decide +kernel) (by decide +kernel)
theorem tb_472 : (Jvm.Cond.instanceMethod ({ cls := "StreetSides$Nodes", name := "size", desc := "()I" } : Jvm.MethodName)) ∈ tbG := tb_mem 472 (by decide +kernel) (by decide +kernel)
theorem tb_473 : (Jvm.Cond.selects "StreetSides$Nodes" ({ cls := "StreetSides$Nodes", name := "size", desc := "()I" } : Jvm.MethodName) ({ cls := "StreetSides$Nodes", name := "size", desc := "()I" } : Jvm.MethodName)) ∈ tbG := tb_mem 473 (by decide +kernel) (by decide +kernel)
theorem tb_474 : (Jvm.Cond.code ({ cls := "StreetSides$Nodes", name := "size", desc := "()I" } : Jvm.MethodName) prog_5_method_4_code (1 : Nat) (Option.some Jvm.ClassFile.FieldType.int)) ∈ tbG := tb_mem 474 (by decide +kernel) (by decide +kernel)
theorem tb_475 : (Jvm.Cond.methodLink "StreetSides$Net" (84 : Nat) ({ cls := "StreetSides$Streets", name := "size", desc := "()I" } : Jvm.MethodName)) ∈ tbG := tb_mem 475 (by decide +kernel) (by decide +kernel)
theorem tb_476 : (Jvm.Cond.instanceMethod ({ cls := "StreetSides$Streets", name := "size", desc := "()I" } : Jvm.MethodName)) ∈ tbG := tb_mem 476 (by decide +kernel) (by decide +kernel)
theorem tb_477 : (Jvm.Cond.selects "StreetSides$Streets" ({ cls := "StreetSides$Streets", name := "size", desc := "()I" } : Jvm.MethodName) ({ cls := "StreetSides$Streets", name := "size", desc := "()I" } : Jvm.MethodName)) ∈ tbG := tb_mem 477 (by decide +kernel) (by decide +kernel)
theorem tb_478 : (Jvm.Cond.code ({ cls := "StreetSides$Streets", name := "size", desc := "()I" } : Jvm.MethodName) prog_7_method_4_code (1 : Nat) (Option.some Jvm.ClassFile.FieldType.int)) ∈ tbG := tb_mem 478 (by decide +kernel) (by decide +kernel)
theorem tb_479 : (Jvm.Cond.methodLink "StreetSides$Net" (85 : Nat) ({ cls := "StreetSides$Streets", name := "nodeAOf", desc := "(I)I" } : Jvm.MethodName)) ∈ tbG := tb_mem 479 (by decide +kernel) (by decide +kernel)
theorem tb_480 : (Jvm.Cond.instanceMethod ({ cls := "StreetSides$Streets", name := "nodeAOf", desc := "(I)I" } : Jvm.MethodName)) ∈ tbG := tb_mem 480 (by decide +kernel) (by decide +kernel)
theorem tb_481 : (Jvm.Cond.selects "StreetSides$Streets" ({ cls := "StreetSides$Streets", name := "nodeAOf", desc := "(I)I" } : Jvm.MethodName) ({ cls := "StreetSides$Streets", name := "nodeAOf", desc := "(I)I" } : Jvm.MethodName)) ∈ tbG := tb_mem 481 (by decide +kernel) (by decide +kernel)
theorem tb_482 : (Jvm.Cond.code ({ cls := "StreetSides$Streets", name := "nodeAOf", desc := "(I)I" } : Jvm.MethodName) prog_7_method_14_code (2 : Nat) (Option.some Jvm.ClassFile.FieldType.int)) ∈ tbG := tb_mem 482 (by decide +kernel) (by decide +kernel)
theorem tb_483 : (Jvm.Cond.methodLink "StreetSides$Net" (88 : Nat) ({ cls := "StreetSides$Streets", name := "nodeBOf", desc := "(I)I" } : Jvm.MethodName)) ∈ tbG := tb_mem 483 (by decide +kernel) (by decide +kernel)
theorem tb_484 : (Jvm.Cond.instanceMethod ({ cls := "StreetSides$Streets", name := "nodeBOf", desc := "(I)I" } : Jvm.MethodName)) ∈ tbG := tb_mem 484 (by decide +kernel) (by decide +kernel)
theorem tb_485 : (Jvm.Cond.selects "StreetSides$Streets" ({ cls := "StreetSides$Streets", name := "nodeBOf", desc := "(I)I" } : Jvm.MethodName) ({ cls := "StreetSides$Streets", name := "nodeBOf", desc := "(I)I" } : Jvm.MethodName)) ∈ tbG := tb_mem 485 (by decide +kernel) (by decide +kernel)
theorem tb_486 : (Jvm.Cond.code ({ cls := "StreetSides$Streets", name := "nodeBOf", desc := "(I)I" } : Jvm.MethodName) prog_7_method_15_code (2 : Nat) (Option.some Jvm.ClassFile.FieldType.int)) ∈ tbG := tb_mem 486 (by decide +kernel) (by decide +kernel)
theorem tb_487 : (Jvm.Cond.methodLink "StreetSides$Net" (91 : Nat) ({ cls := "StreetSides$Streets", name := "hasAnyWay", desc := "(I)Z" } : Jvm.MethodName)) ∈ tbG := tb_mem 487 (by decide +kernel) (by decide +kernel)
theorem tb_488 : (Jvm.Cond.instanceMethod ({ cls := "StreetSides$Streets", name := "hasAnyWay", desc := "(I)Z" } : Jvm.MethodName)) ∈ tbG := tb_mem 488 (by decide +kernel) (by decide +kernel)
theorem tb_489 : (Jvm.Cond.selects "StreetSides$Streets" ({ cls := "StreetSides$Streets", name := "hasAnyWay", desc := "(I)Z" } : Jvm.MethodName) ({ cls := "StreetSides$Streets", name := "hasAnyWay", desc := "(I)Z" } : Jvm.MethodName)) ∈ tbG := tb_mem 489 (by decide +kernel) (by decide +kernel)
theorem tb_490 : (Jvm.Cond.code ({ cls := "StreetSides$Streets", name := "hasAnyWay", desc := "(I)Z" } : Jvm.MethodName) prog_7_method_18_code (2 : Nat) (Option.some Jvm.ClassFile.FieldType.boolean)) ∈ tbG := tb_mem 490 (by decide +kernel) (by decide +kernel)
theorem tb_491 : (Jvm.Cond.methodLink "StreetSides$Net" (94 : Nat) ({ cls := "StreetSides$Net", name := "merge", desc := "(II)V" } : Jvm.MethodName)) ∈ tbG := tb_mem 491 (by decide +kernel) (by decide +kernel)
theorem tb_493 : (Jvm.Cond.instanceMethod ({ cls := "StreetSides$Net", name := "merge", desc := "(II)V" } : Jvm.MethodName)) ∈ tbG := tb_mem 493 (by decide +kernel) (by decide +kernel)
theorem tb_494 : (Jvm.Cond.code ({ cls := "StreetSides$Net", name := "merge", desc := "(II)V" } : Jvm.MethodName) prog_4_method_6_code (4 : Nat) (Option.none : Option Jvm.ClassFile.FieldType)) ∈ tbG := tb_mem 494 (by decide +kernel) (by decide +kernel)
theorem tb_495 : (Jvm.Cond.methodLink "StreetSidesLaw" (82 : Nat) ({ cls := "StreetSides", name := "span", desc := "(I)J" } : Jvm.MethodName)) ∈ tbG := tb_mem 495 (by decide +kernel) (by decide +kernel)
theorem tb_496 : (Jvm.Cond.instanceMethod ({ cls := "StreetSides", name := "span", desc := "(I)J" } : Jvm.MethodName)) ∈ tbG := tb_mem 496 (by decide +kernel) (by decide +kernel)
theorem tb_497 : (Jvm.Cond.selects "StreetSides" ({ cls := "StreetSides", name := "span", desc := "(I)J" } : Jvm.MethodName) ({ cls := "StreetSides", name := "span", desc := "(I)J" } : Jvm.MethodName)) ∈ tbG := tb_mem 497 (by decide +kernel) (by decide +kernel)
theorem tb_498 : (Jvm.Cond.code ({ cls := "StreetSides", name := "span", desc := "(I)J" } : Jvm.MethodName) prog_1_method_16_code (2 : Nat) (Option.some Jvm.ClassFile.FieldType.long)) ∈ tbG := tb_mem 498 (by decide +kernel) (by decide +kernel)
theorem tb_499 : (Jvm.Cond.constantLong "StreetSides" (151 : Nat) (-1 : Int64)) ∈ tbG := tb_mem 499 (by decide +kernel) (by decide +kernel)
theorem tb_500 : (Jvm.Cond.methodLink "StreetSides" (153 : Nat) ({ cls := "StreetSides$Net", name := "squareBetweenEnds", desc := "(I)J" } : Jvm.MethodName)) ∈ tbG := tb_mem 500 (by decide +kernel) (by decide +kernel)
theorem tb_501 : (Jvm.Cond.instanceMethod ({ cls := "StreetSides$Net", name := "squareBetweenEnds", desc := "(I)J" } : Jvm.MethodName)) ∈ tbG := tb_mem 501 (by decide +kernel) (by decide +kernel)
theorem tb_502 : (Jvm.Cond.selects "StreetSides$Net" ({ cls := "StreetSides$Net", name := "squareBetweenEnds", desc := "(I)J" } : Jvm.MethodName) ({ cls := "StreetSides$Net", name := "squareBetweenEnds", desc := "(I)J" } : Jvm.MethodName)) ∈ tbG := tb_mem 502 (by decide +kernel) (by decide +kernel)
theorem tb_503 : (Jvm.Cond.code ({ cls := "StreetSides$Net", name := "squareBetweenEnds", desc := "(I)J" } : Jvm.MethodName) prog_4_method_7_code (2 : Nat) (Option.some Jvm.ClassFile.FieldType.long)) ∈ tbG := tb_mem 503 (by decide +kernel) (by decide +kernel)
theorem tb_504 : (Jvm.Cond.methodLink "StreetSides$Net" (98 : Nat) ({ cls := "StreetSides$Nodes", name := "squareBetween", desc := "(II)J" } : Jvm.MethodName)) ∈ tbG := tb_mem 504 (by decide +kernel) (by decide +kernel)
theorem tb_505 : (Jvm.Cond.instanceMethod ({ cls := "StreetSides$Nodes", name := "squareBetween", desc := "(II)J" } : Jvm.MethodName)) ∈ tbG := tb_mem 505 (by decide +kernel) (by decide +kernel)
theorem tb_506 : (Jvm.Cond.selects "StreetSides$Nodes" ({ cls := "StreetSides$Nodes", name := "squareBetween", desc := "(II)J" } : Jvm.MethodName) ({ cls := "StreetSides$Nodes", name := "squareBetween", desc := "(II)J" } : Jvm.MethodName)) ∈ tbG := tb_mem 506 (by decide +kernel) (by decide +kernel)
theorem tb_507 : (Jvm.Cond.code ({ cls := "StreetSides$Nodes", name := "squareBetween", desc := "(II)J" } : Jvm.MethodName) prog_5_method_7_code (7 : Nat) (Option.some Jvm.ClassFile.FieldType.long)) ∈ tbG := tb_mem 507 (by decide +kernel) (by decide +kernel)
theorem tb_508 : (Jvm.Cond.classLink "StreetSidesLaw" (10 : Nat) "StreetSidesModel") ∈ tbG := tb_mem 508 (by decide +kernel) (by decide +kernel)
theorem tb_509 : (Jvm.Cond.instantiable "StreetSidesModel" (28 : Nat)) ∈ tbG := tb_mem 509 (by decide +kernel) (by decide +kernel)
theorem tb_510 : (Jvm.Cond.methodLink "StreetSidesLaw" (12 : Nat) ({ cls := "StreetSidesModel", name := "<init>", desc := "()V" } : Jvm.MethodName)) ∈ tbG := tb_mem 510 (by decide +kernel) (by decide +kernel)
theorem tb_511 : (Jvm.Cond.instanceMethod ({ cls := "StreetSidesModel", name := "<init>", desc := "()V" } : Jvm.MethodName)) ∈ tbG := tb_mem 511 (by decide +kernel) (by decide +kernel)
theorem tb_512 : (Jvm.Cond.code ({ cls := "StreetSidesModel", name := "<init>", desc := "()V" } : Jvm.MethodName) prog_10_method_1_code (1 : Nat) (Option.none : Option Jvm.ClassFile.FieldType)) ∈ tbG := tb_mem 512 (by decide +kernel) (by decide +kernel)
theorem tb_513 : (Jvm.Cond.methodLink "StreetSidesModel" (1 : Nat) ({ cls := "java/lang/Object", name := "<init>", desc := "()V" } : Jvm.MethodName)) ∈ tbG := tb_mem 513 (by decide +kernel) (by decide +kernel)
theorem tb_514 : (Jvm.Cond.fieldLink "StreetSidesModel" (82 : Nat) "StreetSidesModel" "nodes" "I") ∈ tbG := tb_mem 514 (by decide +kernel) (by decide +kernel)
theorem tb_515 : (Jvm.Cond.fieldLink "StreetSidesModel" (7 : Nat) "StreetSidesModel" "xs" "[I") ∈ tbG := tb_mem 515 (by decide +kernel) (by decide +kernel)
theorem tb_516 : (Jvm.Cond.fieldLink "StreetSidesModel" (13 : Nat) "StreetSidesModel" "ys" "[I") ∈ tbG := tb_mem 516 (by decide +kernel) (by decide +kernel)
theorem tb_517 : (Jvm.Cond.fieldLink "StreetSidesModel" (16 : Nat) "StreetSidesModel" "turning" "[Z") ∈ tbG := tb_mem 517 (by decide +kernel) (by decide +kernel)
theorem tb_518 : (Jvm.Cond.fieldLink "StreetSidesModel" (85 : Nat) "StreetSidesModel" "streets" "I") ∈ tbG := tb_mem 518 (by decide +kernel) (by decide +kernel)
theorem tb_519 : (Jvm.Cond.fieldLink "StreetSidesModel" (20 : Nat) "StreetSidesModel" "starts" "[I") ∈ tbG := tb_mem 519 (by decide +kernel) (by decide +kernel)
theorem tb_520 : (Jvm.Cond.fieldLink "StreetSidesModel" (23 : Nat) "StreetSidesModel" "ends" "[I") ∈ tbG := tb_mem 520 (by decide +kernel) (by decide +kernel)
theorem tb_521 : (Jvm.Cond.fieldLink "StreetSidesModel" (26 : Nat) "StreetSidesModel" "seconds" "[I") ∈ tbG := tb_mem 521 (by decide +kernel) (by decide +kernel)
theorem tb_522 : (Jvm.Cond.fieldLink "StreetSidesModel" (29 : Nat) "StreetSidesModel" "kinds" "[I") ∈ tbG := tb_mem 522 (by decide +kernel) (by decide +kernel)
theorem tb_523 : (Jvm.Cond.fieldLink "StreetSidesModel" (32 : Nat) "StreetSidesModel" "heights" "[J") ∈ tbG := tb_mem 523 (by decide +kernel) (by decide +kernel)
theorem tb_524 : (Jvm.Cond.fieldLink "StreetSidesModel" (36 : Nat) "StreetSidesModel" "weights" "[J") ∈ tbG := tb_mem 524 (by decide +kernel) (by decide +kernel)
theorem tb_525 : (Jvm.Cond.fieldLink "StreetSidesModel" (113 : Nat) "StreetSidesModel" "ownHeight" "J") ∈ tbG := tb_mem 525 (by decide +kernel) (by decide +kernel)
theorem tb_526 : (Jvm.Cond.fieldLink "StreetSidesModel" (117 : Nat) "StreetSidesModel" "ownWeight" "J") ∈ tbG := tb_mem 526 (by decide +kernel) (by decide +kernel)
theorem tb_527 : (Jvm.Cond.fieldLink "StreetSidesModel" (39 : Nat) "StreetSidesModel" "opens" "[I") ∈ tbG := tb_mem 527 (by decide +kernel) (by decide +kernel)
theorem tb_528 : (Jvm.Cond.fieldLink "StreetSidesModel" (42 : Nat) "StreetSidesModel" "shuts" "[I") ∈ tbG := tb_mem 528 (by decide +kernel) (by decide +kernel)
theorem tb_529 : (Jvm.Cond.fieldLink "StreetSidesModel" (45 : Nat) "StreetSidesModel" "closed" "[Z") ∈ tbG := tb_mem 529 (by decide +kernel) (by decide +kernel)
theorem tb_530 : (Jvm.Cond.fieldLink "StreetSidesModel" (48 : Nat) "StreetSidesModel" "turnSeconds" "[I") ∈ tbG := tb_mem 530 (by decide +kernel) (by decide +kernel)
theorem tb_531 : (Jvm.Cond.fieldLink "StreetSidesModel" (51 : Nat) "StreetSidesModel" "barred" "[Z") ∈ tbG := tb_mem 531 (by decide +kernel) (by decide +kernel)
theorem tb_532 : (Jvm.Cond.fieldLink "StreetSidesModel" (150 : Nat) "StreetSidesModel" "needs" "I") ∈ tbG := tb_mem 532 (by decide +kernel) (by decide +kernel)
theorem tb_533 : (Jvm.Cond.fieldLink "StreetSidesModel" (54 : Nat) "StreetSidesModel" "needSides" "[I") ∈ tbG := tb_mem 533 (by decide +kernel) (by decide +kernel)
theorem tb_534 : (Jvm.Cond.fieldLink "StreetSidesModel" (57 : Nat) "StreetSidesModel" "early" "[I") ∈ tbG := tb_mem 534 (by decide +kernel) (by decide +kernel)
theorem tb_535 : (Jvm.Cond.fieldLink "StreetSidesModel" (60 : Nat) "StreetSidesModel" "begins" "[I") ∈ tbG := tb_mem 535 (by decide +kernel) (by decide +kernel)
theorem tb_536 : (Jvm.Cond.fieldLink "StreetSidesModel" (63 : Nat) "StreetSidesModel" "leads" "[Z") ∈ tbG := tb_mem 536 (by decide +kernel) (by decide +kernel)
theorem tb_537 : (Jvm.Cond.fieldLink "StreetSidesModel" (66 : Nat) "StreetSidesModel" "held" "I") ∈ tbG := tb_mem 537 (by decide +kernel) (by decide +kernel)
theorem tb_538 : (Jvm.Cond.fieldLink "StreetSidesModel" (70 : Nat) "StreetSidesModel" "heldSides" "[I") ∈ tbG := tb_mem 538 (by decide +kernel) (by decide +kernel)
theorem tb_539 : (Jvm.Cond.fieldLink "StreetSidesModel" (73 : Nat) "StreetSidesModel" "heldBegins" "[I") ∈ tbG := tb_mem 539 (by decide +kernel) (by decide +kernel)
theorem tb_540 : (Jvm.Cond.fieldLink "StreetSidesModel" (76 : Nat) "StreetSidesModel" "counts" "[I") ∈ tbG := tb_mem 540 (by decide +kernel) (by decide +kernel)
theorem tb_541 : (Jvm.Cond.fieldLink "StreetSidesModel" (79 : Nat) "StreetSidesModel" "pieceOf" "[I") ∈ tbG := tb_mem 541 (by decide +kernel) (by decide +kernel)
theorem tb_542 : (Jvm.Cond.lays "StreetSidesModel" "StreetSidesModel" "nodes" "I") ∈ tbG := tb_mem 542 (by decide +kernel) (by decide +kernel)
theorem tb_544 : (Jvm.Cond.laysFinal "StreetSidesModel" "StreetSidesModel" "xs" "[I") ∈ tbG := tb_mem 544 (by decide +kernel) (by decide +kernel)
theorem tb_546 : (Jvm.Cond.laysFinal "StreetSidesModel" "StreetSidesModel" "ys" "[I") ∈ tbG := tb_mem 546 (by decide +kernel) (by decide +kernel)
theorem tb_548 : (Jvm.Cond.laysFinal "StreetSidesModel" "StreetSidesModel" "turning" "[Z") ∈ tbG := tb_mem 548 (by decide +kernel) (by decide +kernel)
theorem tb_550 : (Jvm.Cond.lays "StreetSidesModel" "StreetSidesModel" "streets" "I") ∈ tbG := tb_mem 550 (by decide +kernel) (by decide +kernel)
theorem tb_552 : (Jvm.Cond.laysFinal "StreetSidesModel" "StreetSidesModel" "starts" "[I") ∈ tbG := tb_mem 552 (by decide +kernel) (by decide +kernel)
theorem tb_554 : (Jvm.Cond.laysFinal "StreetSidesModel" "StreetSidesModel" "ends" "[I") ∈ tbG := tb_mem 554 (by decide +kernel) (by decide +kernel)
theorem tb_556 : (Jvm.Cond.laysFinal "StreetSidesModel" "StreetSidesModel" "seconds" "[I") ∈ tbG := tb_mem 556 (by decide +kernel) (by decide +kernel)
theorem tb_558 : (Jvm.Cond.laysFinal "StreetSidesModel" "StreetSidesModel" "kinds" "[I") ∈ tbG := tb_mem 558 (by decide +kernel) (by decide +kernel)
theorem tb_560 : (Jvm.Cond.laysFinal "StreetSidesModel" "StreetSidesModel" "heights" "[J") ∈ tbG := tb_mem 560 (by decide +kernel) (by decide +kernel)
theorem tb_562 : (Jvm.Cond.laysFinal "StreetSidesModel" "StreetSidesModel" "weights" "[J") ∈ tbG := tb_mem 562 (by decide +kernel) (by decide +kernel)
theorem tb_564 : (Jvm.Cond.lays "StreetSidesModel" "StreetSidesModel" "ownHeight" "J") ∈ tbG := tb_mem 564 (by decide +kernel) (by decide +kernel)
theorem tb_566 : (Jvm.Cond.lays "StreetSidesModel" "StreetSidesModel" "ownWeight" "J") ∈ tbG := tb_mem 566 (by decide +kernel) (by decide +kernel)
theorem tb_568 : (Jvm.Cond.laysFinal "StreetSidesModel" "StreetSidesModel" "opens" "[I") ∈ tbG := tb_mem 568 (by decide +kernel) (by decide +kernel)
theorem tb_570 : (Jvm.Cond.laysFinal "StreetSidesModel" "StreetSidesModel" "shuts" "[I") ∈ tbG := tb_mem 570 (by decide +kernel) (by decide +kernel)
theorem tb_572 : (Jvm.Cond.laysFinal "StreetSidesModel" "StreetSidesModel" "closed" "[Z") ∈ tbG := tb_mem 572 (by decide +kernel) (by decide +kernel)
theorem tb_574 : (Jvm.Cond.laysFinal "StreetSidesModel" "StreetSidesModel" "turnSeconds" "[I") ∈ tbG := tb_mem 574 (by decide +kernel) (by decide +kernel)
theorem tb_576 : (Jvm.Cond.laysFinal "StreetSidesModel" "StreetSidesModel" "barred" "[Z") ∈ tbG := tb_mem 576 (by decide +kernel) (by decide +kernel)
theorem tb_578 : (Jvm.Cond.lays "StreetSidesModel" "StreetSidesModel" "needs" "I") ∈ tbG := tb_mem 578 (by decide +kernel) (by decide +kernel)
theorem tb_580 : (Jvm.Cond.laysFinal "StreetSidesModel" "StreetSidesModel" "needSides" "[I") ∈ tbG := tb_mem 580 (by decide +kernel) (by decide +kernel)
theorem tb_582 : (Jvm.Cond.laysFinal "StreetSidesModel" "StreetSidesModel" "early" "[I") ∈ tbG := tb_mem 582 (by decide +kernel) (by decide +kernel)
theorem tb_584 : (Jvm.Cond.laysFinal "StreetSidesModel" "StreetSidesModel" "begins" "[I") ∈ tbG := tb_mem 584 (by decide +kernel) (by decide +kernel)
theorem tb_586 : (Jvm.Cond.laysFinal "StreetSidesModel" "StreetSidesModel" "leads" "[Z") ∈ tbG := tb_mem 586 (by decide +kernel) (by decide +kernel)
theorem tb_588 : (Jvm.Cond.lays "StreetSidesModel" "StreetSidesModel" "held" "I") ∈ tbG := tb_mem 588 (by decide +kernel) (by decide +kernel)
theorem tb_590 : (Jvm.Cond.laysFinal "StreetSidesModel" "StreetSidesModel" "heldSides" "[I") ∈ tbG := tb_mem 590 (by decide +kernel) (by decide +kernel)
theorem tb_592 : (Jvm.Cond.laysFinal "StreetSidesModel" "StreetSidesModel" "heldBegins" "[I") ∈ tbG := tb_mem 592 (by decide +kernel) (by decide +kernel)
theorem tb_594 : (Jvm.Cond.laysFinal "StreetSidesModel" "StreetSidesModel" "counts" "[I") ∈ tbG := tb_mem 594 (by decide +kernel) (by decide +kernel)
theorem tb_596 : (Jvm.Cond.laysFinal "StreetSidesModel" "StreetSidesModel" "pieceOf" "[I") ∈ tbG := tb_mem 596 (by decide +kernel) (by decide +kernel)
theorem tb_599 : (Jvm.Cond.methodLink "StreetSidesLaw" (19 : Nat) ({ cls := "StreetSidesModel", name := "node", desc := "(JJ)I" } : Jvm.MethodName)) ∈ tbG := tb_mem 599 (by decide +kernel) (by decide +kernel)
theorem tb_600 : (Jvm.Cond.instanceMethod ({ cls := "StreetSidesModel", name := "node", desc := "(JJ)I" } : Jvm.MethodName)) ∈ tbG := tb_mem 600 (by decide +kernel) (by decide +kernel)
theorem tb_601 : (Jvm.Cond.selects "StreetSidesModel" ({ cls := "StreetSidesModel", name := "node", desc := "(JJ)I" } : Jvm.MethodName) ({ cls := "StreetSidesModel", name := "node", desc := "(JJ)I" } : Jvm.MethodName)) ∈ tbG := tb_mem 601 (by decide +kernel) (by decide +kernel)
theorem tb_602 : (Jvm.Cond.code ({ cls := "StreetSidesModel", name := "node", desc := "(JJ)I" } : Jvm.MethodName) prog_10_method_7_code (5 : Nat) (Option.some Jvm.ClassFile.FieldType.int)) ∈ tbG := tb_mem 602 (by decide +kernel) (by decide +kernel)
theorem tb_603 : (Jvm.Cond.constantLong "StreetSidesModel" (92 : Nat) (-100000 : Int64)) ∈ tbG := tb_mem 603 (by decide +kernel) (by decide +kernel)
theorem tb_604 : (Jvm.Cond.constantLong "StreetSidesModel" (94 : Nat) (100000 : Int64)) ∈ tbG := tb_mem 604 (by decide +kernel) (by decide +kernel)
theorem tb_605 : (Jvm.Cond.methodLink "StreetSidesModel" (96 : Nat) ({ cls := "StreetSidesModel", name := "isIn", desc := "(JJJ)Z" } : Jvm.MethodName)) ∈ tbG := tb_mem 605 (by decide +kernel) (by decide +kernel)
theorem tb_606 : (Jvm.Cond.static ({ cls := "StreetSidesModel", name := "isIn", desc := "(JJJ)Z" } : Jvm.MethodName)) ∈ tbG := tb_mem 606 (by decide +kernel) (by decide +kernel)
theorem tb_607 : (Jvm.Cond.code ({ cls := "StreetSidesModel", name := "isIn", desc := "(JJJ)Z" } : Jvm.MethodName) prog_10_method_3_code (6 : Nat) (Option.some Jvm.ClassFile.FieldType.boolean)) ∈ tbG := tb_mem 607 (by decide +kernel) (by decide +kernel)
theorem tb_608 : (Jvm.Cond.methodLink "StreetSidesLaw" (24 : Nat) ({ cls := "StreetSidesModel", name := "street", desc := "(IIII)I" } : Jvm.MethodName)) ∈ tbG := tb_mem 608 (by decide +kernel) (by decide +kernel)
theorem tb_609 : (Jvm.Cond.instanceMethod ({ cls := "StreetSidesModel", name := "street", desc := "(IIII)I" } : Jvm.MethodName)) ∈ tbG := tb_mem 609 (by decide +kernel) (by decide +kernel)
theorem tb_610 : (Jvm.Cond.selects "StreetSidesModel" ({ cls := "StreetSidesModel", name := "street", desc := "(IIII)I" } : Jvm.MethodName) ({ cls := "StreetSidesModel", name := "street", desc := "(IIII)I" } : Jvm.MethodName)) ∈ tbG := tb_mem 610 (by decide +kernel) (by decide +kernel)
theorem tb_611 : (Jvm.Cond.code ({ cls := "StreetSidesModel", name := "street", desc := "(IIII)I" } : Jvm.MethodName) prog_10_method_8_code (5 : Nat) (Option.some Jvm.ClassFile.FieldType.int)) ∈ tbG := tb_mem 611 (by decide +kernel) (by decide +kernel)
theorem tb_612 : (Jvm.Cond.methodLink "StreetSidesModel" (100 : Nat) ({ cls := "StreetSidesModel", name := "isNode", desc := "(I)Z" } : Jvm.MethodName)) ∈ tbG := tb_mem 612 (by decide +kernel) (by decide +kernel)
theorem tb_614 : (Jvm.Cond.instanceMethod ({ cls := "StreetSidesModel", name := "isNode", desc := "(I)Z" } : Jvm.MethodName)) ∈ tbG := tb_mem 614 (by decide +kernel) (by decide +kernel)
theorem tb_615 : (Jvm.Cond.code ({ cls := "StreetSidesModel", name := "isNode", desc := "(I)Z" } : Jvm.MethodName) prog_10_method_4_code (2 : Nat) (Option.some Jvm.ClassFile.FieldType.boolean)) ∈ tbG := tb_mem 615 (by decide +kernel) (by decide +kernel)
theorem tb_616 : (Jvm.Cond.constantLong "StreetSidesModel" (103 : Nat) (10000 : Int64)) ∈ tbG := tb_mem 616 (by decide +kernel) (by decide +kernel)
theorem tb_617 : (Jvm.Cond.constantLong "StreetSidesModel" (105 : Nat) (3 : Int64)) ∈ tbG := tb_mem 617 (by decide +kernel) (by decide +kernel)
theorem tb_618 : (Jvm.Cond.constantLong "StreetSidesModel" (107 : Nat) (1000000 : Int64)) ∈ tbG := tb_mem 618 (by decide +kernel) (by decide +kernel)
theorem tb_619 : (Jvm.Cond.constant "StreetSidesModel" (109 : Nat) (86399 : Int32)) ∈ tbG := tb_mem 619 (by decide +kernel) (by decide +kernel)
theorem tb_620 : (Jvm.Cond.methodLink "StreetSidesLaw" (29 : Nat) ({ cls := "StreetSidesModel", name := "turn", desc := "(IIIZ)Z" } : Jvm.MethodName)) ∈ tbG := tb_mem 620 (by decide +kernel) (by decide +kernel)
theorem tb_621 : (Jvm.Cond.instanceMethod ({ cls := "StreetSidesModel", name := "turn", desc := "(IIIZ)Z" } : Jvm.MethodName)) ∈ tbG := tb_mem 621 (by decide +kernel) (by decide +kernel)
theorem tb_622 : (Jvm.Cond.selects "StreetSidesModel" ({ cls := "StreetSidesModel", name := "turn", desc := "(IIIZ)Z" } : Jvm.MethodName) ({ cls := "StreetSidesModel", name := "turn", desc := "(IIIZ)Z" } : Jvm.MethodName)) ∈ tbG := tb_mem 622 (by decide +kernel) (by decide +kernel)
theorem tb_623 : (Jvm.Cond.code ({ cls := "StreetSidesModel", name := "turn", desc := "(IIIZ)Z" } : Jvm.MethodName) prog_10_method_9_code (5 : Nat) (Option.some Jvm.ClassFile.FieldType.boolean)) ∈ tbG := tb_mem 623 (by decide +kernel) (by decide +kernel)
theorem tb_624 : (Jvm.Cond.methodLink "StreetSidesModel" (88 : Nat) ({ cls := "StreetSidesModel", name := "isStreet", desc := "(I)Z" } : Jvm.MethodName)) ∈ tbG := tb_mem 624 (by decide +kernel) (by decide +kernel)
theorem tb_626 : (Jvm.Cond.instanceMethod ({ cls := "StreetSidesModel", name := "isStreet", desc := "(I)Z" } : Jvm.MethodName)) ∈ tbG := tb_mem 626 (by decide +kernel) (by decide +kernel)
theorem tb_627 : (Jvm.Cond.code ({ cls := "StreetSidesModel", name := "isStreet", desc := "(I)Z" } : Jvm.MethodName) prog_10_method_5_code (2 : Nat) (Option.some Jvm.ClassFile.FieldType.boolean)) ∈ tbG := tb_mem 627 (by decide +kernel) (by decide +kernel)
theorem tb_628 : (Jvm.Cond.constantLong "StreetSidesModel" (110 : Nat) (1000 : Int64)) ∈ tbG := tb_mem 628 (by decide +kernel) (by decide +kernel)
theorem tb_629 : (Jvm.Cond.methodLink "StreetSidesLaw" (34 : Nat) ({ cls := "StreetSidesModel", name := "hours", desc := "(III)Z" } : Jvm.MethodName)) ∈ tbG := tb_mem 629 (by decide +kernel) (by decide +kernel)
theorem tb_630 : (Jvm.Cond.instanceMethod ({ cls := "StreetSidesModel", name := "hours", desc := "(III)Z" } : Jvm.MethodName)) ∈ tbG := tb_mem 630 (by decide +kernel) (by decide +kernel)
theorem tb_631 : (Jvm.Cond.selects "StreetSidesModel" ({ cls := "StreetSidesModel", name := "hours", desc := "(III)Z" } : Jvm.MethodName) ({ cls := "StreetSidesModel", name := "hours", desc := "(III)Z" } : Jvm.MethodName)) ∈ tbG := tb_mem 631 (by decide +kernel) (by decide +kernel)
theorem tb_632 : (Jvm.Cond.code ({ cls := "StreetSidesModel", name := "hours", desc := "(III)Z" } : Jvm.MethodName) prog_10_method_10_code (4 : Nat) (Option.some Jvm.ClassFile.FieldType.boolean)) ∈ tbG := tb_mem 632 (by decide +kernel) (by decide +kernel)
theorem tb_633 : (Jvm.Cond.constant "StreetSidesModel" (112 : Nat) (86400 : Int32)) ∈ tbG := tb_mem 633 (by decide +kernel) (by decide +kernel)
theorem tb_634 : (Jvm.Cond.methodLink "StreetSidesLaw" (39 : Nat) ({ cls := "StreetSidesModel", name := "limit", desc := "(IIJ)Z" } : Jvm.MethodName)) ∈ tbG := tb_mem 634 (by decide +kernel) (by decide +kernel)
theorem tb_635 : (Jvm.Cond.instanceMethod ({ cls := "StreetSidesModel", name := "limit", desc := "(IIJ)Z" } : Jvm.MethodName)) ∈ tbG := tb_mem 635 (by decide +kernel) (by decide +kernel)
theorem tb_636 : (Jvm.Cond.selects "StreetSidesModel" ({ cls := "StreetSidesModel", name := "limit", desc := "(IIJ)Z" } : Jvm.MethodName) ({ cls := "StreetSidesModel", name := "limit", desc := "(IIJ)Z" } : Jvm.MethodName)) ∈ tbG := tb_mem 636 (by decide +kernel) (by decide +kernel)
theorem tb_637 : (Jvm.Cond.code ({ cls := "StreetSidesModel", name := "limit", desc := "(IIJ)Z" } : Jvm.MethodName) prog_10_method_11_code (5 : Nat) (Option.some Jvm.ClassFile.FieldType.boolean)) ∈ tbG := tb_mem 637 (by decide +kernel) (by decide +kernel)
theorem tb_638 : (Jvm.Cond.methodLink "StreetSidesLaw" (44 : Nat) ({ cls := "StreetSidesModel", name := "deadEnd", desc := "(IZ)Z" } : Jvm.MethodName)) ∈ tbG := tb_mem 638 (by decide +kernel) (by decide +kernel)
theorem tb_639 : (Jvm.Cond.instanceMethod ({ cls := "StreetSidesModel", name := "deadEnd", desc := "(IZ)Z" } : Jvm.MethodName)) ∈ tbG := tb_mem 639 (by decide +kernel) (by decide +kernel)
theorem tb_640 : (Jvm.Cond.selects "StreetSidesModel" ({ cls := "StreetSidesModel", name := "deadEnd", desc := "(IZ)Z" } : Jvm.MethodName) ({ cls := "StreetSidesModel", name := "deadEnd", desc := "(IZ)Z" } : Jvm.MethodName)) ∈ tbG := tb_mem 640 (by decide +kernel) (by decide +kernel)
theorem tb_641 : (Jvm.Cond.code ({ cls := "StreetSidesModel", name := "deadEnd", desc := "(IZ)Z" } : Jvm.MethodName) prog_10_method_12_code (3 : Nat) (Option.some Jvm.ClassFile.FieldType.boolean)) ∈ tbG := tb_mem 641 (by decide +kernel) (by decide +kernel)
theorem tb_642 : (Jvm.Cond.methodLink "StreetSidesLaw" (49 : Nat) ({ cls := "StreetSidesModel", name := "close", desc := "(IIZ)Z" } : Jvm.MethodName)) ∈ tbG := tb_mem 642 (by decide +kernel) (by decide +kernel)
theorem tb_643 : (Jvm.Cond.instanceMethod ({ cls := "StreetSidesModel", name := "close", desc := "(IIZ)Z" } : Jvm.MethodName)) ∈ tbG := tb_mem 643 (by decide +kernel) (by decide +kernel)
theorem tb_644 : (Jvm.Cond.selects "StreetSidesModel" ({ cls := "StreetSidesModel", name := "close", desc := "(IIZ)Z" } : Jvm.MethodName) ({ cls := "StreetSidesModel", name := "close", desc := "(IIZ)Z" } : Jvm.MethodName)) ∈ tbG := tb_mem 644 (by decide +kernel) (by decide +kernel)
theorem tb_645 : (Jvm.Cond.code ({ cls := "StreetSidesModel", name := "close", desc := "(IIZ)Z" } : Jvm.MethodName) prog_10_method_13_code (4 : Nat) (Option.some Jvm.ClassFile.FieldType.boolean)) ∈ tbG := tb_mem 645 (by decide +kernel) (by decide +kernel)
theorem tb_646 : (Jvm.Cond.methodLink "StreetSidesLaw" (54 : Nat) ({ cls := "StreetSidesModel", name := "least", desc := "(IIIII)I" } : Jvm.MethodName)) ∈ tbG := tb_mem 646 (by decide +kernel) (by decide +kernel)
theorem tb_647 : (Jvm.Cond.instanceMethod ({ cls := "StreetSidesModel", name := "least", desc := "(IIIII)I" } : Jvm.MethodName)) ∈ tbG := tb_mem 647 (by decide +kernel) (by decide +kernel)
theorem tb_648 : (Jvm.Cond.selects "StreetSidesModel" ({ cls := "StreetSidesModel", name := "least", desc := "(IIIII)I" } : Jvm.MethodName) ({ cls := "StreetSidesModel", name := "least", desc := "(IIIII)I" } : Jvm.MethodName)) ∈ tbG := tb_mem 648 (by decide +kernel) (by decide +kernel)
theorem tb_649 : (Jvm.Cond.code ({ cls := "StreetSidesModel", name := "least", desc := "(IIIII)I" } : Jvm.MethodName) prog_10_method_21_code (11 : Nat) (Option.some Jvm.ClassFile.FieldType.int)) ∈ tbG := tb_mem 649 (by decide +kernel) (by decide +kernel)
theorem tb_650 : (Jvm.Cond.methodLink "StreetSidesModel" (138 : Nat) ({ cls := "StreetSidesModel", name := "isSide", desc := "(II)Z" } : Jvm.MethodName)) ∈ tbG := tb_mem 650 (by decide +kernel) (by decide +kernel)
theorem tb_652 : (Jvm.Cond.instanceMethod ({ cls := "StreetSidesModel", name := "isSide", desc := "(II)Z" } : Jvm.MethodName)) ∈ tbG := tb_mem 652 (by decide +kernel) (by decide +kernel)
theorem tb_653 : (Jvm.Cond.code ({ cls := "StreetSidesModel", name := "isSide", desc := "(II)Z" } : Jvm.MethodName) prog_10_method_6_code (3 : Nat) (Option.some Jvm.ClassFile.FieldType.boolean)) ∈ tbG := tb_mem 653 (by decide +kernel) (by decide +kernel)
theorem tb_654 : (Jvm.Cond.constantLong "StreetSidesModel" (141 : Nat) (31622399 : Int64)) ∈ tbG := tb_mem 654 (by decide +kernel) (by decide +kernel)
theorem tb_655 : (Jvm.Cond.methodLink "StreetSidesModel" (143 : Nat) ({ cls := "StreetSidesModel", name := "settle", desc := "(II)V" } : Jvm.MethodName)) ∈ tbG := tb_mem 655 (by decide +kernel) (by decide +kernel)
theorem tb_657 : (Jvm.Cond.instanceMethod ({ cls := "StreetSidesModel", name := "settle", desc := "(II)V" } : Jvm.MethodName)) ∈ tbG := tb_mem 657 (by decide +kernel) (by decide +kernel)
theorem tb_658 : (Jvm.Cond.code ({ cls := "StreetSidesModel", name := "settle", desc := "(II)V" } : Jvm.MethodName) prog_10_method_19_code (9 : Nat) (Option.none : Option Jvm.ClassFile.FieldType)) ∈ tbG := tb_mem 658 (by decide +kernel) (by decide +kernel)
theorem tb_659 : (Jvm.Cond.methodLink "StreetSidesModel" (130 : Nat) ({ cls := "StreetSidesModel", name := "goesInto", desc := "(II)Z" } : Jvm.MethodName)) ∈ tbG := tb_mem 659 (by decide +kernel) (by decide +kernel)
theorem tb_661 : (Jvm.Cond.instanceMethod ({ cls := "StreetSidesModel", name := "goesInto", desc := "(II)Z" } : Jvm.MethodName)) ∈ tbG := tb_mem 661 (by decide +kernel) (by decide +kernel)
theorem tb_662 : (Jvm.Cond.code ({ cls := "StreetSidesModel", name := "goesInto", desc := "(II)Z" } : Jvm.MethodName) prog_10_method_17_code (3 : Nat) (Option.some Jvm.ClassFile.FieldType.boolean)) ∈ tbG := tb_mem 662 (by decide +kernel) (by decide +kernel)
theorem tb_663 : (Jvm.Cond.methodLink "StreetSidesModel" (120 : Nat) ({ cls := "StreetSidesModel", name := "canBeDriven", desc := "(I)Z" } : Jvm.MethodName)) ∈ tbG := tb_mem 663 (by decide +kernel) (by decide +kernel)
theorem tb_665 : (Jvm.Cond.instanceMethod ({ cls := "StreetSidesModel", name := "canBeDriven", desc := "(I)Z" } : Jvm.MethodName)) ∈ tbG := tb_mem 665 (by decide +kernel) (by decide +kernel)
theorem tb_666 : (Jvm.Cond.code ({ cls := "StreetSidesModel", name := "canBeDriven", desc := "(I)Z" } : Jvm.MethodName) prog_10_method_16_code (4 : Nat) (Option.some Jvm.ClassFile.FieldType.boolean)) ∈ tbG := tb_mem 666 (by decide +kernel) (by decide +kernel)
theorem tb_667 : (Jvm.Cond.methodLink "StreetSidesModel" (123 : Nat) ({ cls := "StreetSidesModel", name := "beginOf", desc := "(I)I" } : Jvm.MethodName)) ∈ tbG := tb_mem 667 (by decide +kernel) (by decide +kernel)
theorem tb_669 : (Jvm.Cond.instanceMethod ({ cls := "StreetSidesModel", name := "beginOf", desc := "(I)I" } : Jvm.MethodName)) ∈ tbG := tb_mem 669 (by decide +kernel) (by decide +kernel)
theorem tb_670 : (Jvm.Cond.code ({ cls := "StreetSidesModel", name := "beginOf", desc := "(I)I" } : Jvm.MethodName) prog_10_method_14_code (2 : Nat) (Option.some Jvm.ClassFile.FieldType.int)) ∈ tbG := tb_mem 670 (by decide +kernel) (by decide +kernel)
theorem tb_671 : (Jvm.Cond.methodLink "StreetSidesModel" (127 : Nat) ({ cls := "StreetSidesModel", name := "endOf", desc := "(I)I" } : Jvm.MethodName)) ∈ tbG := tb_mem 671 (by decide +kernel) (by decide +kernel)
theorem tb_673 : (Jvm.Cond.instanceMethod ({ cls := "StreetSidesModel", name := "endOf", desc := "(I)I" } : Jvm.MethodName)) ∈ tbG := tb_mem 673 (by decide +kernel) (by decide +kernel)
theorem tb_674 : (Jvm.Cond.code ({ cls := "StreetSidesModel", name := "endOf", desc := "(I)I" } : Jvm.MethodName) prog_10_method_15_code (2 : Nat) (Option.some Jvm.ClassFile.FieldType.int)) ∈ tbG := tb_mem 674 (by decide +kernel) (by decide +kernel)
theorem tb_675 : (Jvm.Cond.methodLink "StreetSidesModel" (134 : Nat) ({ cls := "StreetSidesModel", name := "begun", desc := "(III)I" } : Jvm.MethodName)) ∈ tbG := tb_mem 675 (by decide +kernel) (by decide +kernel)
theorem tb_677 : (Jvm.Cond.instanceMethod ({ cls := "StreetSidesModel", name := "begun", desc := "(III)I" } : Jvm.MethodName)) ∈ tbG := tb_mem 677 (by decide +kernel) (by decide +kernel)
theorem tb_678 : (Jvm.Cond.code ({ cls := "StreetSidesModel", name := "begun", desc := "(III)I" } : Jvm.MethodName) prog_10_method_18_code (8 : Nat) (Option.some Jvm.ClassFile.FieldType.int)) ∈ tbG := tb_mem 678 (by decide +kernel) (by decide +kernel)
theorem tb_679 : (Jvm.Cond.methodLink "StreetSidesModel" (147 : Nat) ({ cls := "StreetSidesModel", name := "isStep", desc := "(II)Z" } : Jvm.MethodName)) ∈ tbG := tb_mem 679 (by decide +kernel) (by decide +kernel)
theorem tb_681 : (Jvm.Cond.instanceMethod ({ cls := "StreetSidesModel", name := "isStep", desc := "(II)Z" } : Jvm.MethodName)) ∈ tbG := tb_mem 681 (by decide +kernel) (by decide +kernel)
theorem tb_682 : (Jvm.Cond.code ({ cls := "StreetSidesModel", name := "isStep", desc := "(II)Z" } : Jvm.MethodName) prog_10_method_20_code (3 : Nat) (Option.some Jvm.ClassFile.FieldType.boolean)) ∈ tbG := tb_mem 682 (by decide +kernel) (by decide +kernel)
theorem tb_683 : (Jvm.Cond.methodLink "StreetSidesLaw" (59 : Nat) ({ cls := "StreetSidesModel", name := "way", desc := "(I)I" } : Jvm.MethodName)) ∈ tbG := tb_mem 683 (by decide +kernel) (by decide +kernel)
theorem tb_684 : (Jvm.Cond.instanceMethod ({ cls := "StreetSidesModel", name := "way", desc := "(I)I" } : Jvm.MethodName)) ∈ tbG := tb_mem 684 (by decide +kernel) (by decide +kernel)
theorem tb_685 : (Jvm.Cond.selects "StreetSidesModel" ({ cls := "StreetSidesModel", name := "way", desc := "(I)I" } : Jvm.MethodName) ({ cls := "StreetSidesModel", name := "way", desc := "(I)I" } : Jvm.MethodName)) ∈ tbG := tb_mem 685 (by decide +kernel) (by decide +kernel)
theorem tb_686 : (Jvm.Cond.code ({ cls := "StreetSidesModel", name := "way", desc := "(I)I" } : Jvm.MethodName) prog_10_method_22_code (2 : Nat) (Option.some Jvm.ClassFile.FieldType.int)) ∈ tbG := tb_mem 686 (by decide +kernel) (by decide +kernel)
theorem tb_687 : (Jvm.Cond.methodLink "StreetSidesLaw" (63 : Nat) ({ cls := "StreetSidesModel", name := "begun", desc := "(I)I" } : Jvm.MethodName)) ∈ tbG := tb_mem 687 (by decide +kernel) (by decide +kernel)
theorem tb_688 : (Jvm.Cond.instanceMethod ({ cls := "StreetSidesModel", name := "begun", desc := "(I)I" } : Jvm.MethodName)) ∈ tbG := tb_mem 688 (by decide +kernel) (by decide +kernel)
theorem tb_689 : (Jvm.Cond.selects "StreetSidesModel" ({ cls := "StreetSidesModel", name := "begun", desc := "(I)I" } : Jvm.MethodName) ({ cls := "StreetSidesModel", name := "begun", desc := "(I)I" } : Jvm.MethodName)) ∈ tbG := tb_mem 689 (by decide +kernel) (by decide +kernel)
theorem tb_690 : (Jvm.Cond.code ({ cls := "StreetSidesModel", name := "begun", desc := "(I)I" } : Jvm.MethodName) prog_10_method_23_code (2 : Nat) (Option.some Jvm.ClassFile.FieldType.int)) ∈ tbG := tb_mem 690 (by decide +kernel) (by decide +kernel)
theorem tb_691 : (Jvm.Cond.methodLink "StreetSidesLaw" (68 : Nat) ({ cls := "StreetSidesModel", name := "plain", desc := "(II)I" } : Jvm.MethodName)) ∈ tbG := tb_mem 691 (by decide +kernel) (by decide +kernel)
theorem tb_692 : (Jvm.Cond.instanceMethod ({ cls := "StreetSidesModel", name := "plain", desc := "(II)I" } : Jvm.MethodName)) ∈ tbG := tb_mem 692 (by decide +kernel) (by decide +kernel)
theorem tb_693 : (Jvm.Cond.selects "StreetSidesModel" ({ cls := "StreetSidesModel", name := "plain", desc := "(II)I" } : Jvm.MethodName) ({ cls := "StreetSidesModel", name := "plain", desc := "(II)I" } : Jvm.MethodName)) ∈ tbG := tb_mem 693 (by decide +kernel) (by decide +kernel)
theorem tb_694 : (Jvm.Cond.code ({ cls := "StreetSidesModel", name := "plain", desc := "(II)I" } : Jvm.MethodName) prog_10_method_24_code (6 : Nat) (Option.some Jvm.ClassFile.FieldType.int)) ∈ tbG := tb_mem 694 (by decide +kernel) (by decide +kernel)
theorem tb_695 : (Jvm.Cond.methodLink "StreetSidesLaw" (72 : Nat) ({ cls := "StreetSidesModel", name := "need", desc := "(II)I" } : Jvm.MethodName)) ∈ tbG := tb_mem 695 (by decide +kernel) (by decide +kernel)
theorem tb_696 : (Jvm.Cond.instanceMethod ({ cls := "StreetSidesModel", name := "need", desc := "(II)I" } : Jvm.MethodName)) ∈ tbG := tb_mem 696 (by decide +kernel) (by decide +kernel)
theorem tb_697 : (Jvm.Cond.selects "StreetSidesModel" ({ cls := "StreetSidesModel", name := "need", desc := "(II)I" } : Jvm.MethodName) ({ cls := "StreetSidesModel", name := "need", desc := "(II)I" } : Jvm.MethodName)) ∈ tbG := tb_mem 697 (by decide +kernel) (by decide +kernel)
theorem tb_698 : (Jvm.Cond.code ({ cls := "StreetSidesModel", name := "need", desc := "(II)I" } : Jvm.MethodName) prog_10_method_25_code (3 : Nat) (Option.some Jvm.ClassFile.FieldType.int)) ∈ tbG := tb_mem 698 (by decide +kernel) (by decide +kernel)
theorem tb_699 : (Jvm.Cond.methodLink "StreetSidesLaw" (76 : Nat) ({ cls := "StreetSidesModel", name := "joined", desc := "(II)I" } : Jvm.MethodName)) ∈ tbG := tb_mem 699 (by decide +kernel) (by decide +kernel)
theorem tb_700 : (Jvm.Cond.instanceMethod ({ cls := "StreetSidesModel", name := "joined", desc := "(II)I" } : Jvm.MethodName)) ∈ tbG := tb_mem 700 (by decide +kernel) (by decide +kernel)
theorem tb_701 : (Jvm.Cond.selects "StreetSidesModel" ({ cls := "StreetSidesModel", name := "joined", desc := "(II)I" } : Jvm.MethodName) ({ cls := "StreetSidesModel", name := "joined", desc := "(II)I" } : Jvm.MethodName)) ∈ tbG := tb_mem 701 (by decide +kernel) (by decide +kernel)
theorem tb_702 : (Jvm.Cond.code ({ cls := "StreetSidesModel", name := "joined", desc := "(II)I" } : Jvm.MethodName) prog_10_method_26_code (3 : Nat) (Option.some Jvm.ClassFile.FieldType.int)) ∈ tbG := tb_mem 702 (by decide +kernel) (by decide +kernel)
theorem tb_703 : (Jvm.Cond.methodLink "StreetSidesLaw" (81 : Nat) ({ cls := "StreetSidesModel", name := "pieces", desc := "()I" } : Jvm.MethodName)) ∈ tbG := tb_mem 703 (by decide +kernel) (by decide +kernel)
theorem tb_704 : (Jvm.Cond.instanceMethod ({ cls := "StreetSidesModel", name := "pieces", desc := "()I" } : Jvm.MethodName)) ∈ tbG := tb_mem 704 (by decide +kernel) (by decide +kernel)
theorem tb_705 : (Jvm.Cond.selects "StreetSidesModel" ({ cls := "StreetSidesModel", name := "pieces", desc := "()I" } : Jvm.MethodName) ({ cls := "StreetSidesModel", name := "pieces", desc := "()I" } : Jvm.MethodName)) ∈ tbG := tb_mem 705 (by decide +kernel) (by decide +kernel)
theorem tb_706 : (Jvm.Cond.code ({ cls := "StreetSidesModel", name := "pieces", desc := "()I" } : Jvm.MethodName) prog_10_method_27_code (4 : Nat) (Option.some Jvm.ClassFile.FieldType.int)) ∈ tbG := tb_mem 706 (by decide +kernel) (by decide +kernel)
theorem tb_707 : (Jvm.Cond.methodLink "StreetSidesLaw" (86 : Nat) ({ cls := "StreetSidesModel", name := "span", desc := "(I)J" } : Jvm.MethodName)) ∈ tbG := tb_mem 707 (by decide +kernel) (by decide +kernel)
theorem tb_708 : (Jvm.Cond.instanceMethod ({ cls := "StreetSidesModel", name := "span", desc := "(I)J" } : Jvm.MethodName)) ∈ tbG := tb_mem 708 (by decide +kernel) (by decide +kernel)
theorem tb_709 : (Jvm.Cond.selects "StreetSidesModel" ({ cls := "StreetSidesModel", name := "span", desc := "(I)J" } : Jvm.MethodName) ({ cls := "StreetSidesModel", name := "span", desc := "(I)J" } : Jvm.MethodName)) ∈ tbG := tb_mem 709 (by decide +kernel) (by decide +kernel)
theorem tb_710 : (Jvm.Cond.code ({ cls := "StreetSidesModel", name := "span", desc := "(I)J" } : Jvm.MethodName) prog_10_method_28_code (6 : Nat) (Option.some Jvm.ClassFile.FieldType.long)) ∈ tbG := tb_mem 710 (by decide +kernel) (by decide +kernel)
theorem tb_711 : (Jvm.Cond.constantLong "StreetSidesModel" (153 : Nat) (-1 : Int64)) ∈ tbG := tb_mem 711 (by decide +kernel) (by decide +kernel)
theorem tb_712 : (Jvm.Cond.constantLong "StreetSidesLaw" (13 : Nat) (4294967295 : Int64)) ∈ tbG := tb_mem 712 (by decide +kernel) (by decide +kernel)
abbrev RX0 : String := "StreetSides$HeldWay"
def TX0 : u_T := fun k => match k with
  | 0 => ("StreetSides$HeldWay", "sides", "[I", true)
  | 1 => ("StreetSides$HeldWay", "seconds", "[I", true)
  | _ => ("StreetSides$HeldWay", "length", "I", false)
def tyX0 : Nat → FieldType := fun k => match k with
  | 0 => .array .int
  | 1 => .array .int
  | _ => .int
theorem nX0 : ∀ a, a < 3 → ∀ b, b < 3 → a ≠ b → (TX0 a).2.1 ≠ (TX0 b).2.1 := by decide +kernel
theorem tyX0_ok : ∀ k, k < 3 → parseFieldDescriptor (TX0 k).2.2.1 = some (tyX0 k) := by decide +kernel
theorem in_0 : ∀ w ∈ u_ws RX0 TX0 3, w ∈ tbG := by
  intro w hw
  obtain ⟨k, hk, rfl⟩ := List.mem_map.mp hw
  have hk : k < 3 := List.mem_range.mp hk
  rcases (show k = 0 ∨ k = 1 ∨ k = 2 by omega) with rfl | rfl | rfl
  · exact tb_168
  · exact tb_170
  · exact tb_172
abbrev RX1 : String := "StreetSides$Needs"
def TX1 : u_T := fun k => match k with
  | 0 => ("StreetSides$Needs", "sides", "[I", true)
  | _ => ("StreetSides$Needs", "count", "I", false)
def tyX1 : Nat → FieldType := fun k => match k with
  | 0 => .array .int
  | _ => .int
theorem nX1 : ∀ a, a < 2 → ∀ b, b < 2 → a ≠ b → (TX1 a).2.1 ≠ (TX1 b).2.1 := by decide +kernel
theorem tyX1_ok : ∀ k, k < 2 → parseFieldDescriptor (TX1 k).2.2.1 = some (tyX1 k) := by decide +kernel
theorem in_1 : ∀ w ∈ u_ws RX1 TX1 2, w ∈ tbG := by
  intro w hw
  obtain ⟨k, hk, rfl⟩ := List.mem_map.mp hw
  have hk : k < 2 := List.mem_range.mp hk
  rcases (show k = 0 ∨ k = 1 by omega) with rfl | rfl
  · exact tb_183
  · exact tb_185
abbrev RX2 : String := "StreetSides$Net"
def TX2 : u_T := fun k => match k with
  | 0 => ("StreetSides$Net", "nodes", "LStreetSides$Nodes;", true)
  | 1 => ("StreetSides$Net", "streets", "LStreetSides$Streets;", true)
  | 2 => ("StreetSides$Net", "turns", "LStreetSides$Turns;", true)
  | 3 => ("StreetSides$Net", "vehicle", "[J", true)
  | _ => ("StreetSides$Net", "pieceOf", "[I", true)
def tyX2 : Nat → FieldType := fun k => match k with
  | 0 => .object "StreetSides$Nodes"
  | 1 => .object "StreetSides$Streets"
  | 2 => .object "StreetSides$Turns"
  | 3 => .array .long
  | _ => .array .int
theorem nX2 : ∀ a, a < 5 → ∀ b, b < 5 → a ≠ b → (TX2 a).2.1 ≠ (TX2 b).2.1 := by decide +kernel
theorem tyX2_ok : ∀ k, k < 5 → parseFieldDescriptor (TX2 k).2.2.1 = some (tyX2 k) := by decide +kernel
theorem in_2 : ∀ w ∈ u_ws RX2 TX2 5, w ∈ tbG := by
  intro w hw
  obtain ⟨k, hk, rfl⟩ := List.mem_map.mp hw
  have hk : k < 5 := List.mem_range.mp hk
  rcases (show k = 0 ∨ k = 1 ∨ k = 2 ∨ k = 3 ∨ k = 4 by omega) with rfl | rfl | rfl | rfl | rfl
  · exact tb_123
  · exact tb_125
  · exact tb_127
  · exact tb_129
  · exact tb_131
abbrev RX3 : String := "StreetSides$Nodes"
def TX3 : u_T := fun k => match k with
  | 0 => ("StreetSides$Nodes", "x", "[J", true)
  | 1 => ("StreetSides$Nodes", "y", "[J", true)
  | 2 => ("StreetSides$Nodes", "turningPlace", "[Z", true)
  | _ => ("StreetSides$Nodes", "count", "I", false)
def tyX3 : Nat → FieldType := fun k => match k with
  | 0 => .array .long
  | 1 => .array .long
  | 2 => .array .boolean
  | _ => .int
theorem nX3 : ∀ a, a < 4 → ∀ b, b < 4 → a ≠ b → (TX3 a).2.1 ≠ (TX3 b).2.1 := by decide +kernel
theorem tyX3_ok : ∀ k, k < 4 → parseFieldDescriptor (TX3 k).2.2.1 = some (tyX3 k) := by decide +kernel
theorem in_3 : ∀ w ∈ u_ws RX3 TX3 4, w ∈ tbG := by
  intro w hw
  obtain ⟨k, hk, rfl⟩ := List.mem_map.mp hw
  have hk : k < 4 := List.mem_range.mp hk
  rcases (show k = 0 ∨ k = 1 ∨ k = 2 ∨ k = 3 by omega) with rfl | rfl | rfl | rfl
  · exact tb_54
  · exact tb_56
  · exact tb_58
  · exact tb_60
abbrev RX4 : String := "StreetSides$Search"
def TX4 : u_T := fun k => match k with
  | 0 => ("StreetSides$Search", "earliest", "[I", true)
  | 1 => ("StreetSides$Search", "settled", "[Z", true)
  | 2 => ("StreetSides$Search", "leads", "[Z", true)
  | 3 => ("StreetSides$Search", "order", "[I", true)
  | 4 => ("StreetSides$Search", "steps", "[I", true)
  | _ => ("StreetSides$Search", "settledCount", "I", false)
def tyX4 : Nat → FieldType := fun k => match k with
  | 0 => .array .int
  | 1 => .array .boolean
  | 2 => .array .boolean
  | 3 => .array .int
  | 4 => .array .int
  | _ => .int
theorem nX4 : ∀ a, a < 6 → ∀ b, b < 6 → a ≠ b → (TX4 a).2.1 ≠ (TX4 b).2.1 := by decide +kernel
theorem tyX4_ok : ∀ k, k < 6 → parseFieldDescriptor (TX4 k).2.2.1 = some (tyX4 k) := by decide +kernel
theorem in_4 : ∀ w ∈ u_ws RX4 TX4 6, w ∈ tbG := by
  intro w hw
  obtain ⟨k, hk, rfl⟩ := List.mem_map.mp hw
  have hk : k < 6 := List.mem_range.mp hk
  rcases (show k = 0 ∨ k = 1 ∨ k = 2 ∨ k = 3 ∨ k = 4 ∨ k = 5 by omega) with rfl | rfl | rfl | rfl | rfl | rfl
  · exact tb_146
  · exact tb_148
  · exact tb_150
  · exact tb_152
  · exact tb_154
  · exact tb_156
abbrev RX5 : String := "StreetSides$Streets"
def TX5 : u_T := fun k => match k with
  | 0 => ("StreetSides$Streets", "nodeA", "[I", true)
  | 1 => ("StreetSides$Streets", "nodeB", "[I", true)
  | 2 => ("StreetSides$Streets", "seconds", "[I", true)
  | 3 => ("StreetSides$Streets", "kind", "[I", true)
  | 4 => ("StreetSides$Streets", "firstSecond", "[I", true)
  | 5 => ("StreetSides$Streets", "lastSecond", "[I", true)
  | 6 => ("StreetSides$Streets", "greatest", "[J", true)
  | 7 => ("StreetSides$Streets", "closedDays", "[J", true)
  | _ => ("StreetSides$Streets", "count", "I", false)
def tyX5 : Nat → FieldType := fun k => match k with
  | 0 => .array .int
  | 1 => .array .int
  | 2 => .array .int
  | 3 => .array .int
  | 4 => .array .int
  | 5 => .array .int
  | 6 => .array .long
  | 7 => .array .long
  | _ => .int
theorem nX5 : ∀ a, a < 9 → ∀ b, b < 9 → a ≠ b → (TX5 a).2.1 ≠ (TX5 b).2.1 := by decide +kernel
theorem tyX5_ok : ∀ k, k < 9 → parseFieldDescriptor (TX5 k).2.2.1 = some (tyX5 k) := by decide +kernel
theorem in_5 : ∀ w ∈ u_ws RX5 TX5 9, w ∈ tbG := by
  intro w hw
  obtain ⟨k, hk, rfl⟩ := List.mem_map.mp hw
  have hk : k < 9 := List.mem_range.mp hk
  rcases (show k = 0 ∨ k = 1 ∨ k = 2 ∨ k = 3 ∨ k = 4 ∨ k = 5 ∨ k = 6 ∨ k = 7 ∨ k = 8 by omega) with rfl | rfl | rfl | rfl | rfl | rfl | rfl | rfl | rfl
  · exact tb_80
  · exact tb_82
  · exact tb_84
  · exact tb_86
  · exact tb_88
  · exact tb_90
  · exact tb_92
  · exact tb_94
  · exact tb_96
abbrev RX6 : String := "StreetSides$Turns"
def TX6 : u_T := fun k => match k with
  | 0 => ("StreetSides$Turns", "seconds", "[I", true)
  | _ => ("StreetSides$Turns", "barred", "[Z", true)
def tyX6 : Nat → FieldType := fun k => match k with
  | 0 => .array .int
  | _ => .array .boolean
theorem nX6 : ∀ a, a < 2 → ∀ b, b < 2 → a ≠ b → (TX6 a).2.1 ≠ (TX6 b).2.1 := by decide +kernel
theorem tyX6_ok : ∀ k, k < 2 → parseFieldDescriptor (TX6 k).2.2.1 = some (tyX6 k) := by decide +kernel
theorem in_6 : ∀ w ∈ u_ws RX6 TX6 2, w ∈ tbG := by
  intro w hw
  obtain ⟨k, hk, rfl⟩ := List.mem_map.mp hw
  have hk : k < 2 := List.mem_range.mp hk
  rcases (show k = 0 ∨ k = 1 by omega) with rfl | rfl
  · exact tb_108
  · exact tb_110
abbrev RX7 : String := "StreetSides"
def TX7 : u_T := fun k => match k with
  | 0 => ("StreetSides", "net", "LStreetSides$Net;", true)
  | 1 => ("StreetSides", "search", "LStreetSides$Search;", true)
  | 2 => ("StreetSides", "held", "LStreetSides$HeldWay;", true)
  | _ => ("StreetSides", "needs", "LStreetSides$Needs;", true)
def tyX7 : Nat → FieldType := fun k => match k with
  | 0 => .object "StreetSides$Net"
  | 1 => .object "StreetSides$Search"
  | 2 => .object "StreetSides$HeldWay"
  | _ => .object "StreetSides$Needs"
theorem nX7 : ∀ a, a < 4 → ∀ b, b < 4 → a ≠ b → (TX7 a).2.1 ≠ (TX7 b).2.1 := by decide +kernel
theorem tyX7_ok : ∀ k, k < 4 → parseFieldDescriptor (TX7 k).2.2.1 = some (tyX7 k) := by decide +kernel
theorem in_7 : ∀ w ∈ u_ws RX7 TX7 4, w ∈ tbG := by
  intro w hw
  obtain ⟨k, hk, rfl⟩ := List.mem_map.mp hw
  have hk : k < 4 := List.mem_range.mp hk
  rcases (show k = 0 ∨ k = 1 ∨ k = 2 ∨ k = 3 by omega) with rfl | rfl | rfl | rfl
  · exact tb_192
  · exact tb_194
  · exact tb_196
  · exact tb_198
abbrev RX8 : String := "StreetSidesModel"
def TX8 : u_T := fun k => match k with
  | 0 => ("StreetSidesModel", "nodes", "I", false)
  | 1 => ("StreetSidesModel", "xs", "[I", true)
  | 2 => ("StreetSidesModel", "ys", "[I", true)
  | 3 => ("StreetSidesModel", "turning", "[Z", true)
  | 4 => ("StreetSidesModel", "streets", "I", false)
  | 5 => ("StreetSidesModel", "starts", "[I", true)
  | 6 => ("StreetSidesModel", "ends", "[I", true)
  | 7 => ("StreetSidesModel", "seconds", "[I", true)
  | 8 => ("StreetSidesModel", "kinds", "[I", true)
  | 9 => ("StreetSidesModel", "heights", "[J", true)
  | 10 => ("StreetSidesModel", "weights", "[J", true)
  | 11 => ("StreetSidesModel", "ownHeight", "J", false)
  | 12 => ("StreetSidesModel", "ownWeight", "J", false)
  | 13 => ("StreetSidesModel", "opens", "[I", true)
  | 14 => ("StreetSidesModel", "shuts", "[I", true)
  | 15 => ("StreetSidesModel", "closed", "[Z", true)
  | 16 => ("StreetSidesModel", "turnSeconds", "[I", true)
  | 17 => ("StreetSidesModel", "barred", "[Z", true)
  | 18 => ("StreetSidesModel", "needs", "I", false)
  | 19 => ("StreetSidesModel", "needSides", "[I", true)
  | 20 => ("StreetSidesModel", "early", "[I", true)
  | 21 => ("StreetSidesModel", "begins", "[I", true)
  | 22 => ("StreetSidesModel", "leads", "[Z", true)
  | 23 => ("StreetSidesModel", "held", "I", false)
  | 24 => ("StreetSidesModel", "heldSides", "[I", true)
  | 25 => ("StreetSidesModel", "heldBegins", "[I", true)
  | 26 => ("StreetSidesModel", "counts", "[I", true)
  | _ => ("StreetSidesModel", "pieceOf", "[I", true)
def tyX8 : Nat → FieldType := fun k => match k with
  | 0 => .int
  | 1 => .array .int
  | 2 => .array .int
  | 3 => .array .boolean
  | 4 => .int
  | 5 => .array .int
  | 6 => .array .int
  | 7 => .array .int
  | 8 => .array .int
  | 9 => .array .long
  | 10 => .array .long
  | 11 => .long
  | 12 => .long
  | 13 => .array .int
  | 14 => .array .int
  | 15 => .array .boolean
  | 16 => .array .int
  | 17 => .array .boolean
  | 18 => .int
  | 19 => .array .int
  | 20 => .array .int
  | 21 => .array .int
  | 22 => .array .boolean
  | 23 => .int
  | 24 => .array .int
  | 25 => .array .int
  | 26 => .array .int
  | _ => .array .int
theorem nX8 : ∀ a, a < 28 → ∀ b, b < 28 → a ≠ b → (TX8 a).2.1 ≠ (TX8 b).2.1 := by decide +kernel
theorem tyX8_ok : ∀ k, k < 28 → parseFieldDescriptor (TX8 k).2.2.1 = some (tyX8 k) := by decide +kernel
theorem in_8 : ∀ w ∈ u_ws RX8 TX8 28, w ∈ tbG := by
  intro w hw
  obtain ⟨k, hk, rfl⟩ := List.mem_map.mp hw
  have hk : k < 28 := List.mem_range.mp hk
  rcases (show k = 0 ∨ k = 1 ∨ k = 2 ∨ k = 3 ∨ k = 4 ∨ k = 5 ∨ k = 6 ∨ k = 7 ∨ k = 8 ∨ k = 9 ∨ k = 10 ∨ k = 11 ∨ k = 12 ∨ k = 13 ∨ k = 14 ∨ k = 15 ∨ k = 16 ∨ k = 17 ∨ k = 18 ∨ k = 19 ∨ k = 20 ∨ k = 21 ∨ k = 22 ∨ k = 23 ∨ k = 24 ∨ k = 25 ∨ k = 26 ∨ k = 27 by omega) with rfl | rfl | rfl | rfl | rfl | rfl | rfl | rfl | rfl | rfl | rfl | rfl | rfl | rfl | rfl | rfl | rfl | rfl | rfl | rfl | rfl | rfl | rfl | rfl | rfl | rfl | rfl | rfl
  · exact tb_542
  · exact tb_544
  · exact tb_546
  · exact tb_548
  · exact tb_550
  · exact tb_552
  · exact tb_554
  · exact tb_556
  · exact tb_558
  · exact tb_560
  · exact tb_562
  · exact tb_564
  · exact tb_566
  · exact tb_568
  · exact tb_570
  · exact tb_572
  · exact tb_574
  · exact tb_576
  · exact tb_578
  · exact tb_580
  · exact tb_582
  · exact tb_584
  · exact tb_586
  · exact tb_588
  · exact tb_590
  · exact tb_592
  · exact tb_594
  · exact tb_596
abbrev vwCl : List vw_C := [(RX0, TX0, 3), (RX1, TX1, 2), (RX2, TX2, 5), (RX3, TX3, 4), (RX4, TX4, 6), (RX5, TX5, 9), (RX6, TX6, 2), (RX7, TX7, 4), (RX8, TX8, 28)]
abbrev cX7_init : ByteArray := prog_1_method_1_code
abbrev yX7_init : MethodName := ⟨"StreetSides", "<init>", "()V"⟩
abbrev kX7_init : Cond := .code yX7_init cX7_init 1 none
abbrev cX7_node : ByteArray := prog_1_method_2_code
abbrev yX7_node : MethodName := ⟨"StreetSides", "node", "(JJ)I"⟩
abbrev kX7_node : Cond := .code yX7_node cX7_node 5 (some .int)
abbrev cX7_street : ByteArray := prog_1_method_3_code
abbrev yX7_street : MethodName := ⟨"StreetSides", "street", "(IIII)I"⟩
abbrev kX7_street : Cond := .code yX7_street cX7_street 5 (some .int)
abbrev cX7_turn : ByteArray := prog_1_method_4_code
abbrev yX7_turn : MethodName := ⟨"StreetSides", "turn", "(IIIZ)Z"⟩
abbrev kX7_turn : Cond := .code yX7_turn cX7_turn 5 (some .boolean)
abbrev cX7_hours : ByteArray := prog_1_method_5_code
abbrev yX7_hours : MethodName := ⟨"StreetSides", "hours", "(III)Z"⟩
abbrev kX7_hours : Cond := .code yX7_hours cX7_hours 4 (some .boolean)
abbrev cX7_limit : ByteArray := prog_1_method_6_code
abbrev yX7_limit : MethodName := ⟨"StreetSides", "limit", "(IIJ)Z"⟩
abbrev kX7_limit : Cond := .code yX7_limit cX7_limit 5 (some .boolean)
abbrev cX7_deadEnd : ByteArray := prog_1_method_7_code
abbrev yX7_deadEnd : MethodName := ⟨"StreetSides", "deadEnd", "(IZ)Z"⟩
abbrev kX7_deadEnd : Cond := .code yX7_deadEnd cX7_deadEnd 3 (some .boolean)
abbrev cX7_close : ByteArray := prog_1_method_8_code
abbrev yX7_close : MethodName := ⟨"StreetSides", "close", "(IIZ)Z"⟩
abbrev kX7_close : Cond := .code yX7_close cX7_close 4 (some .boolean)
abbrev cX7_least : ByteArray := prog_1_method_9_code
abbrev yX7_least : MethodName := ⟨"StreetSides", "least", "(IIIII)I"⟩
abbrev kX7_least : Cond := .code yX7_least cX7_least 8 (some .int)
abbrev cX7_way : ByteArray := prog_1_method_10_code
abbrev yX7_way : MethodName := ⟨"StreetSides", "way", "(I)I"⟩
abbrev kX7_way : Cond := .code yX7_way cX7_way 2 (some .int)
abbrev cX7_begun : ByteArray := prog_1_method_11_code
abbrev yX7_begun : MethodName := ⟨"StreetSides", "begun", "(I)I"⟩
abbrev kX7_begun : Cond := .code yX7_begun cX7_begun 2 (some .int)
abbrev cX7_plain : ByteArray := prog_1_method_12_code
abbrev yX7_plain : MethodName := ⟨"StreetSides", "plain", "(II)I"⟩
abbrev kX7_plain : Cond := .code yX7_plain cX7_plain 3 (some .int)
abbrev cX7_need : ByteArray := prog_1_method_13_code
abbrev yX7_need : MethodName := ⟨"StreetSides", "need", "(II)I"⟩
abbrev kX7_need : Cond := .code yX7_need cX7_need 3 (some .int)
abbrev cX7_joined : ByteArray := prog_1_method_14_code
abbrev yX7_joined : MethodName := ⟨"StreetSides", "joined", "(II)I"⟩
abbrev kX7_joined : Cond := .code yX7_joined cX7_joined 5 (some .int)
abbrev cX7_pieces : ByteArray := prog_1_method_15_code
abbrev yX7_pieces : MethodName := ⟨"StreetSides", "pieces", "()I"⟩
abbrev kX7_pieces : Cond := .code yX7_pieces cX7_pieces 1 (some .int)
abbrev cX7_span : ByteArray := prog_1_method_16_code
abbrev yX7_span : MethodName := ⟨"StreetSides", "span", "(I)J"⟩
abbrev kX7_span : Cond := .code yX7_span cX7_span 2 (some .long)
abbrev cX7_isPlace : ByteArray := prog_1_method_17_code
abbrev yX7_isPlace : MethodName := ⟨"StreetSides", "isPlace", "(J)Z"⟩
abbrev kX7_isPlace : Cond := .code yX7_isPlace cX7_isPlace 2 (some .boolean)
abbrev cX7_isSide : ByteArray := prog_1_method_18_code
abbrev yX7_isSide : MethodName := ⟨"StreetSides", "isSide", "(II)Z"⟩
abbrev kX7_isSide : Cond := .code yX7_isSide cX7_isSide 3 (some .boolean)
abbrev cX7_numberOf : ByteArray := prog_1_method_19_code
abbrev yX7_numberOf : MethodName := ⟨"StreetSides", "numberOf", "(II)I"⟩
abbrev kX7_numberOf : Cond := .code yX7_numberOf cX7_numberOf 2 (some .int)
abbrev cX7_streetOf : ByteArray := prog_1_method_20_code
abbrev yX7_streetOf : MethodName := ⟨"StreetSides", "streetOf", "(I)I"⟩
abbrev kX7_streetOf : Cond := .code yX7_streetOf cX7_streetOf 1 (some .int)
abbrev cX8_init : ByteArray := prog_10_method_1_code
abbrev yX8_init : MethodName := ⟨"StreetSidesModel", "<init>", "()V"⟩
abbrev kX8_init : Cond := .code yX8_init cX8_init 1 none
abbrev cX8_isIn : ByteArray := prog_10_method_3_code
abbrev yX8_isIn : MethodName := ⟨"StreetSidesModel", "isIn", "(JJJ)Z"⟩
abbrev kX8_isIn : Cond := .code yX8_isIn cX8_isIn 6 (some .boolean)
abbrev cX8_isNode : ByteArray := prog_10_method_4_code
abbrev yX8_isNode : MethodName := ⟨"StreetSidesModel", "isNode", "(I)Z"⟩
abbrev kX8_isNode : Cond := .code yX8_isNode cX8_isNode 2 (some .boolean)
abbrev cX8_isStreet : ByteArray := prog_10_method_5_code
abbrev yX8_isStreet : MethodName := ⟨"StreetSidesModel", "isStreet", "(I)Z"⟩
abbrev kX8_isStreet : Cond := .code yX8_isStreet cX8_isStreet 2 (some .boolean)
abbrev cX8_isSide : ByteArray := prog_10_method_6_code
abbrev yX8_isSide : MethodName := ⟨"StreetSidesModel", "isSide", "(II)Z"⟩
abbrev kX8_isSide : Cond := .code yX8_isSide cX8_isSide 3 (some .boolean)
abbrev cX8_node : ByteArray := prog_10_method_7_code
abbrev yX8_node : MethodName := ⟨"StreetSidesModel", "node", "(JJ)I"⟩
abbrev kX8_node : Cond := .code yX8_node cX8_node 5 (some .int)
abbrev cX8_street : ByteArray := prog_10_method_8_code
abbrev yX8_street : MethodName := ⟨"StreetSidesModel", "street", "(IIII)I"⟩
abbrev kX8_street : Cond := .code yX8_street cX8_street 5 (some .int)
abbrev cX8_turn : ByteArray := prog_10_method_9_code
abbrev yX8_turn : MethodName := ⟨"StreetSidesModel", "turn", "(IIIZ)Z"⟩
abbrev kX8_turn : Cond := .code yX8_turn cX8_turn 5 (some .boolean)
abbrev cX8_hours : ByteArray := prog_10_method_10_code
abbrev yX8_hours : MethodName := ⟨"StreetSidesModel", "hours", "(III)Z"⟩
abbrev kX8_hours : Cond := .code yX8_hours cX8_hours 4 (some .boolean)
abbrev cX8_limit : ByteArray := prog_10_method_11_code
abbrev yX8_limit : MethodName := ⟨"StreetSidesModel", "limit", "(IIJ)Z"⟩
abbrev kX8_limit : Cond := .code yX8_limit cX8_limit 5 (some .boolean)
abbrev cX8_deadEnd : ByteArray := prog_10_method_12_code
abbrev yX8_deadEnd : MethodName := ⟨"StreetSidesModel", "deadEnd", "(IZ)Z"⟩
abbrev kX8_deadEnd : Cond := .code yX8_deadEnd cX8_deadEnd 3 (some .boolean)
abbrev cX8_close : ByteArray := prog_10_method_13_code
abbrev yX8_close : MethodName := ⟨"StreetSidesModel", "close", "(IIZ)Z"⟩
abbrev kX8_close : Cond := .code yX8_close cX8_close 4 (some .boolean)
abbrev cX8_beginOf : ByteArray := prog_10_method_14_code
abbrev yX8_beginOf : MethodName := ⟨"StreetSidesModel", "beginOf", "(I)I"⟩
abbrev kX8_beginOf : Cond := .code yX8_beginOf cX8_beginOf 2 (some .int)
abbrev cX8_endOf : ByteArray := prog_10_method_15_code
abbrev yX8_endOf : MethodName := ⟨"StreetSidesModel", "endOf", "(I)I"⟩
abbrev kX8_endOf : Cond := .code yX8_endOf cX8_endOf 2 (some .int)
abbrev cX8_canBeDriven : ByteArray := prog_10_method_16_code
abbrev yX8_canBeDriven : MethodName := ⟨"StreetSidesModel", "canBeDriven", "(I)Z"⟩
abbrev kX8_canBeDriven : Cond := .code yX8_canBeDriven cX8_canBeDriven 4 (some .boolean)
abbrev cX8_goesInto : ByteArray := prog_10_method_17_code
abbrev yX8_goesInto : MethodName := ⟨"StreetSidesModel", "goesInto", "(II)Z"⟩
abbrev kX8_goesInto : Cond := .code yX8_goesInto cX8_goesInto 3 (some .boolean)
abbrev cX8_begun : ByteArray := prog_10_method_18_code
abbrev yX8_begun : MethodName := ⟨"StreetSidesModel", "begun", "(III)I"⟩
abbrev kX8_begun : Cond := .code yX8_begun cX8_begun 8 (some .int)
abbrev cX8_settle : ByteArray := prog_10_method_19_code
abbrev yX8_settle : MethodName := ⟨"StreetSidesModel", "settle", "(II)V"⟩
abbrev kX8_settle : Cond := .code yX8_settle cX8_settle 9 none
abbrev cX8_isStep : ByteArray := prog_10_method_20_code
abbrev yX8_isStep : MethodName := ⟨"StreetSidesModel", "isStep", "(II)Z"⟩
abbrev kX8_isStep : Cond := .code yX8_isStep cX8_isStep 3 (some .boolean)
abbrev cX8_least : ByteArray := prog_10_method_21_code
abbrev yX8_least : MethodName := ⟨"StreetSidesModel", "least", "(IIIII)I"⟩
abbrev kX8_least : Cond := .code yX8_least cX8_least 11 (some .int)
abbrev cX8_way : ByteArray := prog_10_method_22_code
abbrev yX8_way : MethodName := ⟨"StreetSidesModel", "way", "(I)I"⟩
abbrev kX8_way : Cond := .code yX8_way cX8_way 2 (some .int)
abbrev cX8_beguno : ByteArray := prog_10_method_23_code
abbrev yX8_beguno : MethodName := ⟨"StreetSidesModel", "begun", "(I)I"⟩
abbrev kX8_beguno : Cond := .code yX8_beguno cX8_beguno 2 (some .int)
abbrev cX8_plain : ByteArray := prog_10_method_24_code
abbrev yX8_plain : MethodName := ⟨"StreetSidesModel", "plain", "(II)I"⟩
abbrev kX8_plain : Cond := .code yX8_plain cX8_plain 6 (some .int)
abbrev cX8_need : ByteArray := prog_10_method_25_code
abbrev yX8_need : MethodName := ⟨"StreetSidesModel", "need", "(II)I"⟩
abbrev kX8_need : Cond := .code yX8_need cX8_need 3 (some .int)
abbrev cX8_joined : ByteArray := prog_10_method_26_code
abbrev yX8_joined : MethodName := ⟨"StreetSidesModel", "joined", "(II)I"⟩
abbrev kX8_joined : Cond := .code yX8_joined cX8_joined 3 (some .int)
abbrev cX8_pieces : ByteArray := prog_10_method_27_code
abbrev yX8_pieces : MethodName := ⟨"StreetSidesModel", "pieces", "()I"⟩
abbrev kX8_pieces : Cond := .code yX8_pieces cX8_pieces 4 (some .int)
abbrev cX8_span : ByteArray := prog_10_method_28_code
abbrev yX8_span : MethodName := ⟨"StreetSidesModel", "span", "(I)J"⟩
abbrev kX8_span : Cond := .code yX8_span cX8_span 6 (some .long)
abbrev cX0_init : ByteArray := prog_2_method_1_code
abbrev yX0_init : MethodName := ⟨"StreetSides$HeldWay", "<init>", "()V"⟩
abbrev kX0_init : Cond := .code yX0_init cX0_init 1 none
abbrev cX0_forget : ByteArray := prog_2_method_2_code
abbrev yX0_forget : MethodName := ⟨"StreetSides$HeldWay", "forget", "()V"⟩
abbrev kX0_forget : Cond := .code yX0_forget cX0_forget 1 none
abbrev cX0_append : ByteArray := prog_2_method_3_code
abbrev yX0_append : MethodName := ⟨"StreetSides$HeldWay", "append", "(II)V"⟩
abbrev kX0_append : Cond := .code yX0_append cX0_append 3 none
abbrev cX0_has : ByteArray := prog_2_method_4_code
abbrev yX0_has : MethodName := ⟨"StreetSides$HeldWay", "has", "(I)Z"⟩
abbrev kX0_has : Cond := .code yX0_has cX0_has 2 (some .boolean)
abbrev cX0_sideAt : ByteArray := prog_2_method_5_code
abbrev yX0_sideAt : MethodName := ⟨"StreetSides$HeldWay", "sideAt", "(I)I"⟩
abbrev kX0_sideAt : Cond := .code yX0_sideAt cX0_sideAt 2 (some .int)
abbrev cX0_secondAt : ByteArray := prog_2_method_6_code
abbrev yX0_secondAt : MethodName := ⟨"StreetSides$HeldWay", "secondAt", "(I)I"⟩
abbrev kX0_secondAt : Cond := .code yX0_secondAt cX0_secondAt 2 (some .int)
abbrev cX1_init : ByteArray := prog_3_method_1_code
abbrev yX1_init : MethodName := ⟨"StreetSides$Needs", "<init>", "()V"⟩
abbrev kX1_init : Cond := .code yX1_init cX1_init 1 none
abbrev cX1_add : ByteArray := prog_3_method_2_code
abbrev yX1_add : MethodName := ⟨"StreetSides$Needs", "add", "(I)I"⟩
abbrev kX1_add : Cond := .code yX1_add cX1_add 2 (some .int)
abbrev cX1_has : ByteArray := prog_3_method_3_code
abbrev yX1_has : MethodName := ⟨"StreetSides$Needs", "has", "(I)Z"⟩
abbrev kX1_has : Cond := .code yX1_has cX1_has 2 (some .boolean)
abbrev cX1_sideAt : ByteArray := prog_3_method_4_code
abbrev yX1_sideAt : MethodName := ⟨"StreetSides$Needs", "sideAt", "(I)I"⟩
abbrev kX1_sideAt : Cond := .code yX1_sideAt cX1_sideAt 2 (some .int)
abbrev cX2_init : ByteArray := prog_4_method_1_code
abbrev yX2_init : MethodName := ⟨"StreetSides$Net", "<init>", "()V"⟩
abbrev kX2_init : Cond := .code yX2_init cX2_init 1 none
abbrev cX2_canBeDriven : ByteArray := prog_4_method_2_code
abbrev yX2_canBeDriven : MethodName := ⟨"StreetSides$Net", "canBeDriven", "(I)Z"⟩
abbrev kX2_canBeDriven : Cond := .code yX2_canBeDriven cX2_canBeDriven 3 (some .boolean)
abbrev cX2_goesOn : ByteArray := prog_4_method_3_code
abbrev yX2_goesOn : MethodName := ⟨"StreetSides$Net", "goesOn", "(II)Z"⟩
abbrev kX2_goesOn : Cond := .code yX2_goesOn cX2_goesOn 6 (some .boolean)
abbrev cX2_endBehind : ByteArray := prog_4_method_4_code
abbrev yX2_endBehind : MethodName := ⟨"StreetSides$Net", "endBehind", "(III)I"⟩
abbrev kX2_endBehind : Cond := .code yX2_endBehind cX2_endBehind 7 (some .int)
abbrev cX2_countPieces : ByteArray := prog_4_method_5_code
abbrev yX2_countPieces : MethodName := ⟨"StreetSides$Net", "countPieces", "()I"⟩
abbrev kX2_countPieces : Cond := .code yX2_countPieces cX2_countPieces 5 (some .int)
abbrev cX2_merge : ByteArray := prog_4_method_6_code
abbrev yX2_merge : MethodName := ⟨"StreetSides$Net", "merge", "(II)V"⟩
abbrev kX2_merge : Cond := .code yX2_merge cX2_merge 4 none
abbrev cX2_squareBetweenEnds : ByteArray := prog_4_method_7_code
abbrev yX2_squareBetweenEnds : MethodName := ⟨"StreetSides$Net", "squareBetweenEnds", "(I)J"⟩
abbrev kX2_squareBetweenEnds : Cond := .code yX2_squareBetweenEnds cX2_squareBetweenEnds 2 (some .long)
abbrev cX3_init : ByteArray := prog_5_method_1_code
abbrev yX3_init : MethodName := ⟨"StreetSides$Nodes", "<init>", "()V"⟩
abbrev kX3_init : Cond := .code yX3_init cX3_init 1 none
abbrev cX3_add : ByteArray := prog_5_method_2_code
abbrev yX3_add : MethodName := ⟨"StreetSides$Nodes", "add", "(JJ)I"⟩
abbrev kX3_add : Cond := .code yX3_add cX3_add 5 (some .int)
abbrev cX3_has : ByteArray := prog_5_method_3_code
abbrev yX3_has : MethodName := ⟨"StreetSides$Nodes", "has", "(I)Z"⟩
abbrev kX3_has : Cond := .code yX3_has cX3_has 2 (some .boolean)
abbrev cX3_size : ByteArray := prog_5_method_4_code
abbrev yX3_size : MethodName := ⟨"StreetSides$Nodes", "size", "()I"⟩
abbrev kX3_size : Cond := .code yX3_size cX3_size 1 (some .int)
abbrev cX3_setTurningPlace : ByteArray := prog_5_method_5_code
abbrev yX3_setTurningPlace : MethodName := ⟨"StreetSides$Nodes", "setTurningPlace", "(IZ)V"⟩
abbrev kX3_setTurningPlace : Cond := .code yX3_setTurningPlace cX3_setTurningPlace 3 none
abbrev cX3_isTurningPlace : ByteArray := prog_5_method_6_code
abbrev yX3_isTurningPlace : MethodName := ⟨"StreetSides$Nodes", "isTurningPlace", "(I)Z"⟩
abbrev kX3_isTurningPlace : Cond := .code yX3_isTurningPlace cX3_isTurningPlace 2 (some .boolean)
abbrev cX3_squareBetween : ByteArray := prog_5_method_7_code
abbrev yX3_squareBetween : MethodName := ⟨"StreetSides$Nodes", "squareBetween", "(II)J"⟩
abbrev kX3_squareBetween : Cond := .code yX3_squareBetween cX3_squareBetween 7 (some .long)
abbrev cX4_init : ByteArray := prog_6_method_1_code
abbrev yX4_init : MethodName := ⟨"StreetSides$Search", "<init>", "()V"⟩
abbrev kX4_init : Cond := .code yX4_init cX4_init 1 none
abbrev cX4_explore : ByteArray := prog_6_method_2_code
abbrev yX4_explore : MethodName := ⟨"StreetSides$Search", "explore", "(LStreetSides$Net;II)V"⟩
abbrev kX4_explore : Cond := .code yX4_explore cX4_explore 7 none
abbrev cX4_forget : ByteArray := prog_6_method_3_code
abbrev yX4_forget : MethodName := ⟨"StreetSides$Search", "forget", "()V"⟩
abbrev kX4_forget : Cond := .code yX4_forget cX4_forget 2 none
abbrev cX4_soonestUnsettled : ByteArray := prog_6_method_4_code
abbrev yX4_soonestUnsettled : MethodName := ⟨"StreetSides$Search", "soonestUnsettled", "(I)I"⟩
abbrev kX4_soonestUnsettled : Cond := .code yX4_soonestUnsettled cX4_soonestUnsettled 5 (some .int)
abbrev cX4_goOnFrom : ByteArray := prog_6_method_5_code
abbrev yX4_goOnFrom : MethodName := ⟨"StreetSides$Search", "goOnFrom", "(LStreetSides$Net;I)V"⟩
abbrev kX4_goOnFrom : Cond := .code yX4_goOnFrom cX4_goOnFrom 5 none
abbrev cX4_comesTo : ByteArray := prog_6_method_6_code
abbrev yX4_comesTo : MethodName := ⟨"StreetSides$Search", "comesTo", "(I)Z"⟩
abbrev kX4_comesTo : Cond := .code yX4_comesTo cX4_comesTo 2 (some .boolean)
abbrev cX4_earliestAt : ByteArray := prog_6_method_7_code
abbrev yX4_earliestAt : MethodName := ⟨"StreetSides$Search", "earliestAt", "(I)I"⟩
abbrev kX4_earliestAt : Cond := .code yX4_earliestAt cX4_earliestAt 2 (some .int)
abbrev cX4_markLeading : ByteArray := prog_6_method_8_code
abbrev yX4_markLeading : MethodName := ⟨"StreetSides$Search", "markLeading", "(LStreetSides$Net;I)V"⟩
abbrev kX4_markLeading : Cond := .code yX4_markLeading cX4_markLeading 4 none
abbrev cX4_firstLeading : ByteArray := prog_6_method_9_code
abbrev yX4_firstLeading : MethodName := ⟨"StreetSides$Search", "firstLeading", "(LStreetSides$Net;I)I"⟩
abbrev kX4_firstLeading : Cond := .code yX4_firstLeading cX4_firstLeading 4 (some .int)
abbrev cX4_trace : ByteArray := prog_6_method_10_code
abbrev yX4_trace : MethodName := ⟨"StreetSides$Search", "trace", "(LStreetSides$Net;IILStreetSides$HeldWay;)V"⟩
abbrev kX4_trace : Cond := .code yX4_trace cX4_trace 8 none
abbrev cX4_fewestSides : ByteArray := prog_6_method_11_code
abbrev yX4_fewestSides : MethodName := ⟨"StreetSides$Search", "fewestSides", "(LStreetSides$Net;II)I"⟩
abbrev kX4_fewestSides : Cond := .code yX4_fewestSides cX4_fewestSides 7 (some .int)
abbrev cX4_stepOnFrom : ByteArray := prog_6_method_12_code
abbrev yX4_stepOnFrom : MethodName := ⟨"StreetSides$Search", "stepOnFrom", "(LStreetSides$Net;I)V"⟩
abbrev kX4_stepOnFrom : Cond := .code yX4_stepOnFrom cX4_stepOnFrom 4 none
abbrev cX5_init : ByteArray := prog_7_method_1_code
abbrev yX5_init : MethodName := ⟨"StreetSides$Streets", "<init>", "()V"⟩
abbrev kX5_init : Cond := .code yX5_init cX5_init 1 none
abbrev cX5_add : ByteArray := prog_7_method_2_code
abbrev yX5_add : MethodName := ⟨"StreetSides$Streets", "add", "(IIII)I"⟩
abbrev kX5_add : Cond := .code yX5_add cX5_add 6 (some .int)
abbrev cX5_has : ByteArray := prog_7_method_3_code
abbrev yX5_has : MethodName := ⟨"StreetSides$Streets", "has", "(I)Z"⟩
abbrev kX5_has : Cond := .code yX5_has cX5_has 2 (some .boolean)
abbrev cX5_size : ByteArray := prog_7_method_4_code
abbrev yX5_size : MethodName := ⟨"StreetSides$Streets", "size", "()I"⟩
abbrev kX5_size : Cond := .code yX5_size cX5_size 1 (some .int)
abbrev cX5_sides : ByteArray := prog_7_method_5_code
abbrev yX5_sides : MethodName := ⟨"StreetSides$Streets", "sides", "()I"⟩
abbrev kX5_sides : Cond := .code yX5_sides cX5_sides 1 (some .int)
abbrev cX5_setHours : ByteArray := prog_7_method_6_code
abbrev yX5_setHours : MethodName := ⟨"StreetSides$Streets", "setHours", "(III)V"⟩
abbrev kX5_setHours : Cond := .code yX5_setHours cX5_setHours 4 none
abbrev cX5_setGreatest : ByteArray := prog_7_method_7_code
abbrev yX5_setGreatest : MethodName := ⟨"StreetSides$Streets", "setGreatest", "(IIJ)V"⟩
abbrev kX5_setGreatest : Cond := .code yX5_setGreatest cX5_setGreatest 5 none
abbrev cX5_greatestOf : ByteArray := prog_7_method_8_code
abbrev yX5_greatestOf : MethodName := ⟨"StreetSides$Streets", "greatestOf", "(II)J"⟩
abbrev kX5_greatestOf : Cond := .code yX5_greatestOf cX5_greatestOf 3 (some .long)
abbrev cX5_setClosed : ByteArray := prog_7_method_9_code
abbrev yX5_setClosed : MethodName := ⟨"StreetSides$Streets", "setClosed", "(IIZ)V"⟩
abbrev kX5_setClosed : Cond := .code yX5_setClosed cX5_setClosed 7 none
abbrev cX5_isClosed : ByteArray := prog_7_method_10_code
abbrev yX5_isClosed : MethodName := ⟨"StreetSides$Streets", "isClosed", "(II)Z"⟩
abbrev kX5_isClosed : Cond := .code yX5_isClosed cX5_isClosed 3 (some .boolean)
abbrev cX5_wordOf : ByteArray := prog_7_method_11_code
abbrev yX5_wordOf : MethodName := ⟨"StreetSides$Streets", "wordOf", "(II)I"⟩
abbrev kX5_wordOf : Cond := .code yX5_wordOf cX5_wordOf 2 (some .int)
abbrev cX5_bitOf : ByteArray := prog_7_method_12_code
abbrev yX5_bitOf : MethodName := ⟨"StreetSides$Streets", "bitOf", "(I)J"⟩
abbrev kX5_bitOf : Cond := .code yX5_bitOf cX5_bitOf 1 (some .long)
abbrev cX5_secondsOf : ByteArray := prog_7_method_13_code
abbrev yX5_secondsOf : MethodName := ⟨"StreetSides$Streets", "secondsOf", "(I)I"⟩
abbrev kX5_secondsOf : Cond := .code yX5_secondsOf cX5_secondsOf 2 (some .int)
abbrev cX5_nodeAOf : ByteArray := prog_7_method_14_code
abbrev yX5_nodeAOf : MethodName := ⟨"StreetSides$Streets", "nodeAOf", "(I)I"⟩
abbrev kX5_nodeAOf : Cond := .code yX5_nodeAOf cX5_nodeAOf 2 (some .int)
abbrev cX5_nodeBOf : ByteArray := prog_7_method_15_code
abbrev yX5_nodeBOf : MethodName := ⟨"StreetSides$Streets", "nodeBOf", "(I)I"⟩
abbrev kX5_nodeBOf : Cond := .code yX5_nodeBOf cX5_nodeBOf 2 (some .int)
abbrev cX5_startOf : ByteArray := prog_7_method_16_code
abbrev yX5_startOf : MethodName := ⟨"StreetSides$Streets", "startOf", "(I)I"⟩
abbrev kX5_startOf : Cond := .code yX5_startOf cX5_startOf 2 (some .int)
abbrev cX5_endOf : ByteArray := prog_7_method_17_code
abbrev yX5_endOf : MethodName := ⟨"StreetSides$Streets", "endOf", "(I)I"⟩
abbrev kX5_endOf : Cond := .code yX5_endOf cX5_endOf 2 (some .int)
abbrev cX5_hasAnyWay : ByteArray := prog_7_method_18_code
abbrev yX5_hasAnyWay : MethodName := ⟨"StreetSides$Streets", "hasAnyWay", "(I)Z"⟩
abbrev kX5_hasAnyWay : Cond := .code yX5_hasAnyWay cX5_hasAnyWay 2 (some .boolean)
abbrev cX5_hasWay : ByteArray := prog_7_method_19_code
abbrev yX5_hasWay : MethodName := ⟨"StreetSides$Streets", "hasWay", "(II)Z"⟩
abbrev kX5_hasWay : Cond := .code yX5_hasWay cX5_hasWay 3 (some .boolean)
abbrev cX5_beginning : ByteArray := prog_7_method_20_code
abbrev yX5_beginning : MethodName := ⟨"StreetSides$Streets", "beginning", "(II)I"⟩
abbrev kX5_beginning : Cond := .code yX5_beginning cX5_beginning 6 (some .int)
abbrev cX6_init : ByteArray := prog_8_method_1_code
abbrev yX6_init : MethodName := ⟨"StreetSides$Turns", "<init>", "()V"⟩
abbrev kX6_init : Cond := .code yX6_init cX6_init 1 none
abbrev cX6_set : ByteArray := prog_8_method_2_code
abbrev yX6_set : MethodName := ⟨"StreetSides$Turns", "set", "(IIIZ)V"⟩
abbrev kX6_set : Cond := .code yX6_set cX6_set 5 none
abbrev cX6_secondsOf : ByteArray := prog_8_method_3_code
abbrev yX6_secondsOf : MethodName := ⟨"StreetSides$Turns", "secondsOf", "(II)I"⟩
abbrev kX6_secondsOf : Cond := .code yX6_secondsOf cX6_secondsOf 3 (some .int)
abbrev cX6_isBarred : ByteArray := prog_8_method_4_code
abbrev yX6_isBarred : MethodName := ⟨"StreetSides$Turns", "isBarred", "(II)Z"⟩
abbrev kX6_isBarred : Cond := .code yX6_isBarred cX6_isBarred 3 (some .boolean)
abbrev cX6_slotOf : ByteArray := prog_8_method_5_code
abbrev yX6_slotOf : MethodName := ⟨"StreetSides$Turns", "slotOf", "(II)I"⟩
abbrev kX6_slotOf : Cond := .code yX6_slotOf cX6_slotOf 2 (some .int)
abbrev cL_law : ByteArray := code
def nestW : List Cond := [(Jvm.Cond.methodLinkNest "StreetSides" (11 : Nat) ({ cls := "StreetSides$Net", name := "<init>", desc := "()V" } : Jvm.MethodName) "StreetSides"), (Jvm.Cond.methodLinkNest "StreetSides$Net" (11 : Nat) ({ cls := "StreetSides$Nodes", name := "<init>", desc := "()V" } : Jvm.MethodName) "StreetSides"), (Jvm.Cond.methodLinkNest "StreetSides$Net" (20 : Nat) ({ cls := "StreetSides$Streets", name := "<init>", desc := "()V" } : Jvm.MethodName) "StreetSides"), (Jvm.Cond.methodLinkNest "StreetSides$Net" (27 : Nat) ({ cls := "StreetSides$Turns", name := "<init>", desc := "()V" } : Jvm.MethodName) "StreetSides"), (Jvm.Cond.fieldLinkNest "StreetSides" (41 : Nat) "StreetSides$Net" "nodes" "LStreetSides$Nodes;" "StreetSides"), (Jvm.Cond.fieldLinkNest "StreetSides$Search" (35 : Nat) "StreetSides$Net" "streets" "LStreetSides$Streets;" "StreetSides"), (Jvm.Cond.fieldLinkNest "StreetSides" (55 : Nat) "StreetSides$Net" "streets" "LStreetSides$Streets;" "StreetSides"), (Jvm.Cond.fieldLinkNest "StreetSides" (65 : Nat) "StreetSides$Net" "turns" "LStreetSides$Turns;" "StreetSides"), (Jvm.Cond.fieldLinkNest "StreetSides" (82 : Nat) "StreetSides$Net" "vehicle" "[J" "StreetSides"), (Jvm.Cond.methodLinkNest "StreetSides" (18 : Nat) ({ cls := "StreetSides$Search", name := "<init>", desc := "()V" } : Jvm.MethodName) "StreetSides"), (Jvm.Cond.methodLinkNest "StreetSides" (25 : Nat) ({ cls := "StreetSides$HeldWay", name := "<init>", desc := "()V" } : Jvm.MethodName) "StreetSides"), (Jvm.Cond.methodLinkNest "StreetSides" (32 : Nat) ({ cls := "StreetSides$Needs", name := "<init>", desc := "()V" } : Jvm.MethodName) "StreetSides"), (Jvm.Cond.methodLinkNest "StreetSides$Streets" (62 : Nat) ({ cls := "StreetSides", name := "streetOf", desc := "(I)I" } : Jvm.MethodName) "StreetSides"), (Jvm.Cond.methodLinkNest "StreetSides$Net" (40 : Nat) ({ cls := "StreetSides", name := "streetOf", desc := "(I)I" } : Jvm.MethodName) "StreetSides"), (Jvm.Cond.methodLinkNest "StreetSides$Search" (64 : Nat) ({ cls := "StreetSides", name := "streetOf", desc := "(I)I" } : Jvm.MethodName) "StreetSides")]
theorem nestW_tbl : ∀ w ∈ nestW, w ∈ lw_tbl := by
  intro w hw
  simp only [nestW, List.mem_cons, List.not_mem_nil, or_false] at hw
  rcases hw with rfl | rfl | rfl | rfl | rfl | rfl | rfl | rfl | rfl | rfl | rfl | rfl | rfl | rfl | rfl
  · exact List.mem_of_getElem? (i := 40) (by decide +kernel)
  · exact List.mem_of_getElem? (i := 46) (by decide +kernel)
  · exact List.mem_of_getElem? (i := 67) (by decide +kernel)
  · exact List.mem_of_getElem? (i := 102) (by decide +kernel)
  · exact List.mem_of_getElem? (i := 114) (by decide +kernel)
  · exact List.mem_of_getElem? (i := 116) (by decide +kernel)
  · exact List.mem_of_getElem? (i := 117) (by decide +kernel)
  · exact List.mem_of_getElem? (i := 119) (by decide +kernel)
  · exact List.mem_of_getElem? (i := 121) (by decide +kernel)
  · exact List.mem_of_getElem? (i := 136) (by decide +kernel)
  · exact List.mem_of_getElem? (i := 161) (by decide +kernel)
  · exact List.mem_of_getElem? (i := 177) (by decide +kernel)
  · exact List.mem_of_getElem? (i := 335) (by decide +kernel)
  · exact List.mem_of_getElem? (i := 346) (by decide +kernel)
  · exact List.mem_of_getElem? (i := 399) (by decide +kernel)
theorem nw_0 : (Jvm.Cond.methodLinkNest "StreetSides" (11 : Nat) ({ cls := "StreetSides$Net", name := "<init>", desc := "()V" } : Jvm.MethodName) "StreetSides") ∈ nestW := List.mem_of_getElem? (i := 0) rfl
theorem nw_1 : (Jvm.Cond.methodLinkNest "StreetSides$Net" (11 : Nat) ({ cls := "StreetSides$Nodes", name := "<init>", desc := "()V" } : Jvm.MethodName) "StreetSides") ∈ nestW := List.mem_of_getElem? (i := 1) rfl
theorem nw_2 : (Jvm.Cond.methodLinkNest "StreetSides$Net" (20 : Nat) ({ cls := "StreetSides$Streets", name := "<init>", desc := "()V" } : Jvm.MethodName) "StreetSides") ∈ nestW := List.mem_of_getElem? (i := 2) rfl
theorem nw_3 : (Jvm.Cond.methodLinkNest "StreetSides$Net" (27 : Nat) ({ cls := "StreetSides$Turns", name := "<init>", desc := "()V" } : Jvm.MethodName) "StreetSides") ∈ nestW := List.mem_of_getElem? (i := 3) rfl
theorem nw_4 : (Jvm.Cond.fieldLinkNest "StreetSides" (41 : Nat) "StreetSides$Net" "nodes" "LStreetSides$Nodes;" "StreetSides") ∈ nestW := List.mem_of_getElem? (i := 4) rfl
theorem nw_5 : (Jvm.Cond.fieldLinkNest "StreetSides$Search" (35 : Nat) "StreetSides$Net" "streets" "LStreetSides$Streets;" "StreetSides") ∈ nestW := List.mem_of_getElem? (i := 5) rfl
theorem nw_6 : (Jvm.Cond.fieldLinkNest "StreetSides" (55 : Nat) "StreetSides$Net" "streets" "LStreetSides$Streets;" "StreetSides") ∈ nestW := List.mem_of_getElem? (i := 6) rfl
theorem nw_7 : (Jvm.Cond.fieldLinkNest "StreetSides" (65 : Nat) "StreetSides$Net" "turns" "LStreetSides$Turns;" "StreetSides") ∈ nestW := List.mem_of_getElem? (i := 7) rfl
theorem nw_8 : (Jvm.Cond.fieldLinkNest "StreetSides" (82 : Nat) "StreetSides$Net" "vehicle" "[J" "StreetSides") ∈ nestW := List.mem_of_getElem? (i := 8) rfl
theorem nw_9 : (Jvm.Cond.methodLinkNest "StreetSides" (18 : Nat) ({ cls := "StreetSides$Search", name := "<init>", desc := "()V" } : Jvm.MethodName) "StreetSides") ∈ nestW := List.mem_of_getElem? (i := 9) rfl
theorem nw_10 : (Jvm.Cond.methodLinkNest "StreetSides" (25 : Nat) ({ cls := "StreetSides$HeldWay", name := "<init>", desc := "()V" } : Jvm.MethodName) "StreetSides") ∈ nestW := List.mem_of_getElem? (i := 10) rfl
theorem nw_11 : (Jvm.Cond.methodLinkNest "StreetSides" (32 : Nat) ({ cls := "StreetSides$Needs", name := "<init>", desc := "()V" } : Jvm.MethodName) "StreetSides") ∈ nestW := List.mem_of_getElem? (i := 11) rfl
theorem nw_12 : (Jvm.Cond.methodLinkNest "StreetSides$Streets" (62 : Nat) ({ cls := "StreetSides", name := "streetOf", desc := "(I)I" } : Jvm.MethodName) "StreetSides") ∈ nestW := List.mem_of_getElem? (i := 12) rfl
theorem nw_13 : (Jvm.Cond.methodLinkNest "StreetSides$Net" (40 : Nat) ({ cls := "StreetSides", name := "streetOf", desc := "(I)I" } : Jvm.MethodName) "StreetSides") ∈ nestW := List.mem_of_getElem? (i := 13) rfl
theorem nw_14 : (Jvm.Cond.methodLinkNest "StreetSides$Search" (64 : Nat) ({ cls := "StreetSides", name := "streetOf", desc := "(I)I" } : Jvm.MethodName) "StreetSides") ∈ nestW := List.mem_of_getElem? (i := 14) rfl
