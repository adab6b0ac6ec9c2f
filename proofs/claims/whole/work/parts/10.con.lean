theorem dX7_isPlace_0 : decode cX7_isPlace 0 = .ok (.lload_n 0, 1) := by decide +kernel
theorem dX7_isPlace_1 : decode cX7_isPlace 1 = .ok (.ldc2_w 157, 3) := by decide +kernel
theorem dX7_isPlace_4 : decode cX7_isPlace 4 = .ok (.lcmp, 1) := by decide +kernel
theorem dX7_isPlace_5 : decode cX7_isPlace 5 = .ok (.ifCond .lt 15, 3) := by decide +kernel
theorem dX7_isPlace_8 : decode cX7_isPlace 8 = .ok (.lload_n 0, 1) := by decide +kernel
theorem dX7_isPlace_9 : decode cX7_isPlace 9 = .ok (.ldc2_w 159, 3) := by decide +kernel
theorem dX7_isPlace_12 : decode cX7_isPlace 12 = .ok (.lcmp, 1) := by decide +kernel
theorem dX7_isPlace_13 : decode cX7_isPlace 13 = .ok (.ifCond .gt 7, 3) := by decide +kernel
theorem dX7_isPlace_16 : decode cX7_isPlace 16 = .ok (.iconst 1, 1) := by decide +kernel
theorem dX7_isPlace_17 : decode cX7_isPlace 17 = .ok (.goto 4, 3) := by decide +kernel
theorem dX7_isPlace_20 : decode cX7_isPlace 20 = .ok (.iconst 0, 1) := by decide +kernel
theorem dX7_isPlace_21 : decode cX7_isPlace 21 = .ok (.ireturn, 1) := by decide +kernel
abbrev rm_xO_isPlace : Room := { frames := 0, cells := 0, slots := 0, locals := 0 }
def xp_O_isPlace (u : S4) (x0 : Int64) : Int32 :=
  if (lg_cmp x0 (-100000 : Int64)) < (0 : Int32) then
    (0 : Int32)
  else
    if (0 : Int32) < (lg_cmp x0 (100000 : Int64)) then
      (0 : Int32)
    else
      (1 : Int32)
set_option maxHeartbeats 4000000 in
set_option maxRecDepth 100000 in
theorem xc_O_isPlace (l : Launch) (D : va_G) (a : Nat → Nat) (k3 : K3) (u : S4) (x0 : Int64) : MI l D vwCl (ty3 k3) nestW (xC a k3) yX7_isPlace (kX7_isPlace :: tbG) rm_xO_isPlace [.long x0] u (xp_O_isPlace u x0, u) := by
  refine mkI (cc := cX7_isPlace) (maxL := 2) (ret := (some .boolean)) (by decide) rfl (Nat.le_of_ble_eq_true rfl) ?_
  intro p e s m below meth c A ls F hw hl
  generalize hav : ([.long x0] : List Value).toArray = av at F ⊢
  have hl : lv_has ls 2 [(0, .long x0)] := hl
  obtain ⟨hx, hb, hr, hml, hown, hts, hK, hN, hlocks, hA⟩ := id F
  have hown : s.vm.findClass RX7 = some m.cls := hown
  have htG : ∀ w ∈ tbG, w.before av s = true := fun w h => hts w (List.mem_cons_of_mem _ h)
  have k_157 := htG _ tb_208
  have k_159 := htG _ tb_209
  have hgo : ∀ P, xp_O_isPlace u x0 = P → ∀ (H : Heap) (locs : List Loc), wd D vwCl (xC a k3) A s.heap u H locs → W p l e rm_xO_isPlace s m av below meth c H locs 0 0 (QI below D vwCl (xC a k3) A av s (P, u)) (F0 m 0 ls []) := by
    intro P hP H locs hw
    refine lv_lload_n hx hb dX7_isPlace_0 rfl (lv_at hl 0 rfl) ?_
    refine lv_ldc2 (v := -100000) hx hb hown k_157 dX7_isPlace_1 ?_
    refine W.lcmp hx hb dX7_isPlace_4 ?_
    refine lv_if_lt (tgt := 20) hx hb dX7_isPlace_5 (by decide) (fun c1 => ?_) (fun c1 => ?_)
    · have hP := (if_pos c1).symm.trans hP
      refine lv_iconst (v := 0) hx hb dX7_isPlace_20 (by decide) ?_
      exact ret_z hx hb hr hlocks hw rfl dX7_isPlace_21 (congrArg (fun z => (z, u)) hP)
    · have hP := (if_neg c1).symm.trans hP
      refine lv_lload_n hx hb dX7_isPlace_8 rfl (lv_at hl 0 rfl) ?_
      refine lv_ldc2 (v := 100000) hx hb hown k_159 dX7_isPlace_9 ?_
      refine W.lcmp hx hb dX7_isPlace_12 ?_
      refine lv_if_gt (tgt := 20) hx hb dX7_isPlace_13 (by decide) (fun c2 => ?_) (fun c2 => ?_)
      · have hP := (if_pos c2).symm.trans hP
        refine lv_iconst (v := 0) hx hb dX7_isPlace_20 (by decide) ?_
        exact ret_z hx hb hr hlocks hw rfl dX7_isPlace_21 (congrArg (fun z => (z, u)) hP)
      · have hP := (if_neg c2).symm.trans hP
        refine lv_iconst (v := 1) hx hb dX7_isPlace_16 (by decide) ?_
        refine lv_goto (tgt := 21) hx hb dX7_isPlace_17 (by decide) ?_
        exact ret_z hx hb hr hlocks hw rfl dX7_isPlace_21 (congrArg (fun z => (z, u)) hP)
  exact hgo _ rfl s.heap [] hw
theorem dX3_add_0 : decode cX3_add 0 = .ok (.aload_n 0, 1) := by decide +kernel
theorem dX3_add_1 : decode cX3_add 1 = .ok (.getfield 22, 3) := by decide +kernel
theorem dX3_add_4 : decode cX3_add 4 = .ok (.bipush 8, 2) := by decide +kernel
theorem dX3_add_6 : decode cX3_add 6 = .ok (.if_icmp .lt 5, 3) := by decide +kernel
theorem dX3_add_9 : decode cX3_add 9 = .ok (.iconst (-1), 1) := by decide +kernel
theorem dX3_add_10 : decode cX3_add 10 = .ok (.ireturn, 1) := by decide +kernel
theorem dX3_add_11 : decode cX3_add 11 = .ok (.aload_n 0, 1) := by decide +kernel
theorem dX3_add_12 : decode cX3_add 12 = .ok (.getfield 9, 3) := by decide +kernel
theorem dX3_add_15 : decode cX3_add 15 = .ok (.aload_n 0, 1) := by decide +kernel
theorem dX3_add_16 : decode cX3_add 16 = .ok (.getfield 22, 3) := by decide +kernel
theorem dX3_add_19 : decode cX3_add 19 = .ok (.lload_n 1, 1) := by decide +kernel
theorem dX3_add_20 : decode cX3_add 20 = .ok (.lastore, 1) := by decide +kernel
theorem dX3_add_21 : decode cX3_add 21 = .ok (.aload_n 0, 1) := by decide +kernel
theorem dX3_add_22 : decode cX3_add 22 = .ok (.getfield 15, 3) := by decide +kernel
theorem dX3_add_25 : decode cX3_add 25 = .ok (.aload_n 0, 1) := by decide +kernel
theorem dX3_add_26 : decode cX3_add 26 = .ok (.getfield 22, 3) := by decide +kernel
theorem dX3_add_29 : decode cX3_add 29 = .ok (.lload_n 3, 1) := by decide +kernel
theorem dX3_add_30 : decode cX3_add 30 = .ok (.lastore, 1) := by decide +kernel
theorem dX3_add_31 : decode cX3_add 31 = .ok (.aload_n 0, 1) := by decide +kernel
theorem dX3_add_32 : decode cX3_add 32 = .ok (.dup, 1) := by decide +kernel
theorem dX3_add_33 : decode cX3_add 33 = .ok (.getfield 22, 3) := by decide +kernel
theorem dX3_add_36 : decode cX3_add 36 = .ok (.iconst 1, 1) := by decide +kernel
theorem dX3_add_37 : decode cX3_add 37 = .ok (.iadd, 1) := by decide +kernel
theorem dX3_add_38 : decode cX3_add 38 = .ok (.putfield 22, 3) := by decide +kernel
theorem dX3_add_41 : decode cX3_add 41 = .ok (.aload_n 0, 1) := by decide +kernel
theorem dX3_add_42 : decode cX3_add 42 = .ok (.getfield 22, 3) := by decide +kernel
theorem dX3_add_45 : decode cX3_add 45 = .ok (.iconst 1, 1) := by decide +kernel
theorem dX3_add_46 : decode cX3_add 46 = .ok (.isub, 1) := by decide +kernel
theorem dX3_add_47 : decode cX3_add 47 = .ok (.ireturn, 1) := by decide +kernel
abbrev rm_xNodes_add : Room := { frames := 0, cells := 0, slots := 0, locals := 0 }
def xp_Nodes_add (u : S4) (x1 : Int64) (x3 : Int64) : Int32 × S4 :=
  if (s4_i u 0) < (8 : Int32) then
    let u3 : S4 := s4_wb u 1 (s4_i u 0) x1
    let u5 : S4 := s4_wb u3 2 (s4_i u3 0) x3
    let v6 : Int32 := ((s4_i u5 0) + (1 : Int32))
    let u7 : S4 := s4_si u5 0 v6
    (((s4_i u7 0) - (1 : Int32)), u7)
  else
    ((-1 : Int32), u)
def xq_Nodes_add (u : S4) (x1 : Int64) (x3 : Int64) : Prop :=
  ((s4_i u 0) < (8 : Int32) →
    vp_in (s4_i u 0) 8 ∧
    let u3 : S4 := s4_wb u 1 (s4_i u 0) x1
    vp_in (s4_i u3 0) 8)
set_option maxHeartbeats 4000000 in
set_option maxRecDepth 100000 in
theorem xc_Nodes_add (l : Launch) (D : va_G) (a : Nat → Nat) (k3 : K3) (u : S4) (x1 : Int64) (x3 : Int64) (hq : xq_Nodes_add u x1 x3) : MI l D vwCl (ty3 k3) nestW (xC a k3) yX3_add (kX3_add :: tbG) rm_xNodes_add [.ref (a 2), .long x1, .long x3] u (xp_Nodes_add u x1 x3) := by
  refine mkI (cc := cX3_add) (maxL := 5) (ret := (some .int)) (by decide) rfl (Nat.le_of_ble_eq_true rfl) ?_
  intro p e s m below meth c A ls F hw hl
  generalize hav : ([.ref (a 2), .long x1, .long x3] : List Value).toArray = av at F ⊢
  have hl : lv_has ls 5 [(0, .ref (a 2)), (1, .long x1), (3, .long x3)] := hl
  obtain ⟨hx, hb, hr, hml, hown, hts, hK, hN, hlocks, hA⟩ := id F
  have hown : s.vm.findClass RX3 = some m.cls := hown
  have htG : ∀ w ∈ tbG, w.before av s = true := fun w h => hts w (List.mem_cons_of_mem _ h)
  have f_22 := htG _ tb_53
  have f_9 := htG _ tb_50
  have f_15 := htG _ tb_51
  have hgo : ∀ P, xp_Nodes_add u x1 x3 = P → ∀ (H : Heap) (locs : List Loc), wd D vwCl (xC a k3) A s.heap u H locs → W p l e rm_xNodes_add s m av below meth c H locs 0 0 (QI below D vwCl (xC a k3) A av s P) (F0 m 0 ls []) := by
    intro P hP H locs hw
    refine lv_aload_n hx hb dX3_add_0 rfl (lv_at hl 0 rfl) ?_
    refine va_get (D := D) (ci := 3) (v := .int (s4_i u 0)) (C := RX3) (T := TX3) (N := 4) hx hb htG in_3 hown hK hw.1 2 (xo_2 a k3 u) rfl 3 (by decide) f_22 (fun _ h9 => h9) rfl dX3_add_1 ?_
    refine lv_bipush (v := 8) hx hb dX3_add_4 (by decide) ?_
    refine lv_icmp_lt (tgt := 11) hx hb dX3_add_6 (by decide) (fun c1 => ?_) (fun c1 => ?_)
    · have hP := (if_pos c1).symm.trans hP
      have hq := hq c1
      refine lv_aload_n hx hb dX3_add_11 rfl (lv_at hl 0 rfl) ?_
      refine va_get (D := D) (ci := 3) (v := .ref (a 10)) (C := RX3) (T := TX3) (N := 4) hx hb htG in_3 hown hK hw.1 2 (xo_2 a k3 u) rfl 0 (by decide) f_9 (fun _ h9 => h9) rfl dX3_add_12 ?_
      refine lv_aload_n hx hb dX3_add_15 rfl (lv_at hl 0 rfl) ?_
      refine va_get (D := D) (ci := 3) (v := .int (s4_i u 0)) (C := RX3) (T := TX3) (N := 4) hx hb htG in_3 hown hK hw.1 2 (xo_2 a k3 u) rfl 3 (by decide) f_22 (fun _ h9 => h9) rfl dX3_add_16 ?_
      refine lv_lload_n hx hb dX3_add_19 rfl (lv_at hl 1 rfl) ?_
      obtain ⟨h2, hq⟩ := hq
      let u3 : S4 := s4_wb u 1 (s4_i u 0) x1
      refine y_last (t0 := 1) hx hb hK hw 1 (xo_10 a k3 u) (xq_10 a k3 u) rfl h2 dX3_add_20 (fun H locs (hw : wd D vwCl (xC a k3) A s.heap u3 H locs) => ?_)
      refine lv_aload_n hx hb dX3_add_21 rfl (lv_at hl 0 rfl) ?_
      refine va_get (D := D) (ci := 3) (v := .ref (a 11)) (C := RX3) (T := TX3) (N := 4) hx hb htG in_3 hown hK hw.1 2 (xo_2 a k3 u3) rfl 1 (by decide) f_15 (fun _ h9 => h9) rfl dX3_add_22 ?_
      refine lv_aload_n hx hb dX3_add_25 rfl (lv_at hl 0 rfl) ?_
      refine va_get (D := D) (ci := 3) (v := .int (s4_i u3 0)) (C := RX3) (T := TX3) (N := 4) hx hb htG in_3 hown hK hw.1 2 (xo_2 a k3 u3) rfl 3 (by decide) f_22 (fun _ h9 => h9) rfl dX3_add_26 ?_
      refine lv_lload_n hx hb dX3_add_29 rfl (lv_at hl 2 rfl) ?_
      have h4 := hq
      let u5 : S4 := s4_wb u3 2 (s4_i u3 0) x3
      refine y_last (t0 := 1) hx hb hK hw 2 (xo_11 a k3 u3) (xq_11 a k3 u3) rfl h4 dX3_add_30 (fun H locs (hw : wd D vwCl (xC a k3) A s.heap u5 H locs) => ?_)
      refine lv_aload_n hx hb dX3_add_31 rfl (lv_at hl 0 rfl) ?_
      refine lv_dup hx hb dX3_add_32 rfl ?_
      refine va_get (D := D) (ci := 3) (v := .int (s4_i u5 0)) (C := RX3) (T := TX3) (N := 4) hx hb htG in_3 hown hK hw.1 2 (xo_2 a k3 u5) rfl 3 (by decide) f_22 (fun _ h9 => h9) rfl dX3_add_33 ?_
      refine lv_iconst (v := 1) hx hb dX3_add_36 (by decide) ?_
      refine lv_iadd hx hb dX3_add_37 ?_
      let v6 : Int32 := ((s4_i u5 0) + (1 : Int32))
      let u7 : S4 := s4_si u5 0 v6
      refine y_puti hx hb htG in_3 tyX3 tyX3_ok nX3 hown hK hw 0 (xo_2 a k3 u5) rfl 3 (by decide) f_22 (fun _ h9 => h9) rfl (by decide +kernel) (Nat.le_of_ble_eq_true rfl) (xt_i0 a k3 u5 v6) dX3_add_38 (fun H locs (hw : wd D vwCl (xC a k3) A s.heap u7 H locs) => ?_)
      refine lv_aload_n hx hb dX3_add_41 rfl (lv_at hl 0 rfl) ?_
      refine va_get (D := D) (ci := 3) (v := .int (s4_i u7 0)) (C := RX3) (T := TX3) (N := 4) hx hb htG in_3 hown hK hw.1 2 (xo_2 a k3 u7) rfl 3 (by decide) f_22 (fun _ h9 => h9) rfl dX3_add_42 ?_
      refine lv_iconst (v := 1) hx hb dX3_add_45 (by decide) ?_
      refine lv_isub hx hb dX3_add_46 ?_
      exact ret_i hx hb hr hlocks hw dX3_add_47 hP
    · have hP := (if_neg c1).symm.trans hP
      refine lv_iconst (v := -1) hx hb dX3_add_9 (by decide) ?_
      exact ret_i hx hb hr hlocks hw dX3_add_10 hP
  exact hgo _ rfl s.heap [] hw
theorem dX7_node_0 : decode cX7_node 0 = .ok (.lload_n 1, 1) := by decide +kernel
theorem dX7_node_1 : decode cX7_node 1 = .ok (.invokestatic 37, 3) := by decide +kernel
theorem dX7_node_4 : decode cX7_node 4 = .ok (.ifCond .eq 10, 3) := by decide +kernel
theorem dX7_node_7 : decode cX7_node 7 = .ok (.lload_n 3, 1) := by decide +kernel
theorem dX7_node_8 : decode cX7_node 8 = .ok (.invokestatic 37, 3) := by decide +kernel
theorem dX7_node_11 : decode cX7_node 11 = .ok (.ifCond .ne 5, 3) := by decide +kernel
theorem dX7_node_14 : decode cX7_node 14 = .ok (.iconst (-1), 1) := by decide +kernel
theorem dX7_node_15 : decode cX7_node 15 = .ok (.ireturn, 1) := by decide +kernel
theorem dX7_node_16 : decode cX7_node 16 = .ok (.aload_n 0, 1) := by decide +kernel
theorem dX7_node_17 : decode cX7_node 17 = .ok (.getfield 12, 3) := by decide +kernel
theorem dX7_node_20 : decode cX7_node 20 = .ok (.getfield 41, 3) := by decide +kernel
theorem dX7_node_23 : decode cX7_node 23 = .ok (.lload_n 1, 1) := by decide +kernel
theorem dX7_node_24 : decode cX7_node 24 = .ok (.lload_n 3, 1) := by decide +kernel
theorem dX7_node_25 : decode cX7_node 25 = .ok (.invokevirtual 45, 3) := by decide +kernel
theorem dX7_node_28 : decode cX7_node 28 = .ok (.ireturn, 1) := by decide +kernel
abbrev rm_xO_node : Room := { frames := 1, cells := 0, slots := 0, locals := 24 }
def xp_O_node (u : S4) (x1 : Int64) (x3 : Int64) : Int32 × S4 :=
  let r1 : Int32 := xp_O_isPlace u x1
  if r1 = (0 : Int32) then
    ((-1 : Int32), u)
  else
    let r3 : Int32 := xp_O_isPlace u x3
    if r3 = (0 : Int32) then
      ((-1 : Int32), u)
    else
      let r6 : Int32 × S4 := xp_Nodes_add u x1 x3
      (r6.1, r6.2)
def xq_O_node (u : S4) (x1 : Int64) (x3 : Int64) : Prop :=
  let r1 : Int32 := xp_O_isPlace u x1
  (¬ r1 = (0 : Int32) →
    let r3 : Int32 := xp_O_isPlace u x3
    (¬ r3 = (0 : Int32) →
      xq_Nodes_add u x1 x3))
set_option maxHeartbeats 4000000 in
set_option maxRecDepth 100000 in
theorem xc_O_node (l : Launch) (D : va_G) (a : Nat → Nat) (k3 : K3) (u : S4) (x1 : Int64) (x3 : Int64) (hq : xq_O_node u x1 x3) : MI l D vwCl (ty3 k3) nestW (xC a k3) yX7_node (kX7_node :: tbG) rm_xO_node [.ref (a 0), .long x1, .long x3] u (xp_O_node u x1 x3) := by
  refine mkI (cc := cX7_node) (maxL := 5) (ret := (some .int)) (by decide) rfl (Nat.le_of_ble_eq_true rfl) ?_
  intro p e s m below meth c A ls F hw hl
  generalize hav : ([.ref (a 0), .long x1, .long x3] : List Value).toArray = av at F ⊢
  have hl : lv_has ls 5 [(0, .ref (a 0)), (1, .long x1), (3, .long x3)] := hl
  obtain ⟨hx, hb, hr, hml, hown, hts, hK, hN, hlocks, hA⟩ := id F
  have hown : s.vm.findClass RX7 = some m.cls := hown
  have htG : ∀ w ∈ tbG, w.before av s = true := fun w h => hts w (List.mem_cons_of_mem _ h)
  have f_12 := htG _ tb_188
  have f_41 := va_Nw.use (A := av) rfl (hN _ nw_4)
  have hgo : ∀ P, xp_O_node u x1 x3 = P → ∀ (H : Heap) (locs : List Loc), wd D vwCl (xC a k3) A s.heap u H locs → W p l e rm_xO_node s m av below meth c H locs 0 0 (QI below D vwCl (xC a k3) A av s P) (F0 m 0 ls []) := by
    intro P hP H locs hw
    refine lv_lload_n hx hb dX7_node_0 rfl (lv_at hl 1 rfl) ?_
    let r1 : Int32 := xp_O_isPlace u x1
    refine call_sir (rest := []) ⟨hx, hb, hml, hown, htG⟩ nestW_ok hK hN hA (xc_O_isPlace l D a k3 u x1) (cwS 1 htG (tb_S tb_205 tb_206 tb_20 tb_207) rfl rfl rfl (by decide +kernel) ⟨Nat.le_of_ble_eq_true rfl, Nat.le_of_ble_eq_true rfl⟩) hw rfl hl.1 rfl (Nat.le_of_ble_eq_true rfl) dX7_node_1 ⟨Nat.zero_le _, Nat.zero_le _⟩ (fun H locs (hw : wd D vwCl (xC a k3) A s.heap u H locs) => ?_)
    refine lv_if_eq (tgt := 14) hx hb dX7_node_4 (by decide) (fun c2 => ?_) (fun c2 => ?_)
    · have hP := (if_pos c2).symm.trans hP
      refine lv_iconst (v := -1) hx hb dX7_node_14 (by decide) ?_
      exact ret_i hx hb hr hlocks hw dX7_node_15 hP
    · have hP := (if_neg c2).symm.trans hP
      have hq := hq c2
      refine lv_lload_n hx hb dX7_node_7 rfl (lv_at hl 2 rfl) ?_
      let r3 : Int32 := xp_O_isPlace u x3
      refine call_sir (rest := []) ⟨hx, hb, hml, hown, htG⟩ nestW_ok hK hN hA (xc_O_isPlace l D a k3 u x3) (cwS 1 htG (tb_S tb_205 tb_206 tb_20 tb_207) rfl rfl rfl (by decide +kernel) ⟨Nat.le_of_ble_eq_true rfl, Nat.le_of_ble_eq_true rfl⟩) hw rfl hl.1 rfl (Nat.le_of_ble_eq_true rfl) dX7_node_8 ⟨Nat.zero_le _, Nat.zero_le _⟩ (fun H locs (hw : wd D vwCl (xC a k3) A s.heap u H locs) => ?_)
      refine lv_if_ne (tgt := 16) hx hb dX7_node_11 (by decide) (fun c4 => ?_) (fun c4 => ?_)
      · have hP := (if_neg c4).symm.trans hP
        have hq := hq c4
        refine lv_aload_n hx hb dX7_node_16 rfl (lv_at hl 0 rfl) ?_
        refine va_get (D := D) (ci := 7) (v := .ref (a 1)) (C := RX7) (T := TX7) (N := 4) hx hb htG in_7 hown hK hw.1 0 (xo_0 a k3 u) rfl 0 (by decide) f_12 (fun _ h9 => h9) rfl dX7_node_17 ?_
        refine va_getN (D := D) (ci := 2) (v := .ref (a 2)) (C := RX2) (T := TX2) (N := 5) hx hb htG in_2 hown hK hw.1 1 (xo_1 a k3 u) rfl 0 (by decide) f_41 (fun _ h9 => h9) rfl dX7_node_20 ?_
        refine lv_lload_n hx hb dX7_node_23 rfl (lv_at hl 1 rfl) ?_
        refine lv_lload_n hx hb dX7_node_24 rfl (lv_at hl 2 rfl) ?_
        have h5 := hq
        let r6 : Int32 × S4 := xp_Nodes_add u x1 x3
        refine call_vi (rest := []) ⟨hx, hb, hml, hown, htG⟩ nestW_ok hK hN hA (xc_Nodes_add l D a k3 u x1 x3 h5) (cwV 2 htG (tb_V tb_210 tb_211 tb_212 tb_22 tb_213) rfl rfl rfl (by decide +kernel) ⟨Nat.le_of_ble_eq_true rfl, Nat.le_of_ble_eq_true rfl⟩) (ci := 3) rfl (xo_2 a k3 u) rfl hw rfl hl.1 rfl (Nat.le_of_ble_eq_true rfl) dX7_node_25 ⟨Nat.zero_le _, Nat.zero_le _⟩ (fun H locs (hw : wd D vwCl (xC a k3) A s.heap r6.2 H locs) => ?_)
        exact ret_i hx hb hr hlocks hw dX7_node_28 hP
      · have hP := (if_pos c4).symm.trans hP
        refine lv_iconst (v := -1) hx hb dX7_node_14 (by decide) ?_
        exact ret_i hx hb hr hlocks hw dX7_node_15 hP
  exact hgo _ rfl s.heap [] hw
theorem dX3_has_0 : decode cX3_has 0 = .ok (.iload_n 1, 1) := by decide +kernel
theorem dX3_has_1 : decode cX3_has 1 = .ok (.ifCond .lt 15, 3) := by decide +kernel
theorem dX3_has_4 : decode cX3_has 4 = .ok (.iload_n 1, 1) := by decide +kernel
theorem dX3_has_5 : decode cX3_has 5 = .ok (.aload_n 0, 1) := by decide +kernel
theorem dX3_has_6 : decode cX3_has 6 = .ok (.getfield 22, 3) := by decide +kernel
theorem dX3_has_9 : decode cX3_has 9 = .ok (.if_icmp .ge 7, 3) := by decide +kernel
theorem dX3_has_12 : decode cX3_has 12 = .ok (.iconst 1, 1) := by decide +kernel
theorem dX3_has_13 : decode cX3_has 13 = .ok (.goto 4, 3) := by decide +kernel
theorem dX3_has_16 : decode cX3_has 16 = .ok (.iconst 0, 1) := by decide +kernel
theorem dX3_has_17 : decode cX3_has 17 = .ok (.ireturn, 1) := by decide +kernel
abbrev rm_xNodes_has : Room := { frames := 0, cells := 0, slots := 0, locals := 0 }
def xp_Nodes_has (u : S4) (x1 : Int32) : Int32 :=
  if x1 < (0 : Int32) then
    (0 : Int32)
  else
    if (s4_i u 0) ≤ x1 then
      (0 : Int32)
    else
      (1 : Int32)
set_option maxHeartbeats 4000000 in
set_option maxRecDepth 100000 in
theorem xc_Nodes_has (l : Launch) (D : va_G) (a : Nat → Nat) (k3 : K3) (u : S4) (x1 : Int32) : MI l D vwCl (ty3 k3) nestW (xC a k3) yX3_has (kX3_has :: tbG) rm_xNodes_has [.ref (a 2), .int x1] u (xp_Nodes_has u x1, u) := by
  refine mkI (cc := cX3_has) (maxL := 2) (ret := (some .boolean)) (by decide) rfl (Nat.le_of_ble_eq_true rfl) ?_
  intro p e s m below meth c A ls F hw hl
  generalize hav : ([.ref (a 2), .int x1] : List Value).toArray = av at F ⊢
  have hl : lv_has ls 2 [(0, .ref (a 2)), (1, .int x1)] := hl
  obtain ⟨hx, hb, hr, hml, hown, hts, hK, hN, hlocks, hA⟩ := id F
  have hown : s.vm.findClass RX3 = some m.cls := hown
  have htG : ∀ w ∈ tbG, w.before av s = true := fun w h => hts w (List.mem_cons_of_mem _ h)
  have f_22 := htG _ tb_53
  have hgo : ∀ P, xp_Nodes_has u x1 = P → ∀ (H : Heap) (locs : List Loc), wd D vwCl (xC a k3) A s.heap u H locs → W p l e rm_xNodes_has s m av below meth c H locs 0 0 (QI below D vwCl (xC a k3) A av s (P, u)) (F0 m 0 ls []) := by
    intro P hP H locs hw
    refine lv_iload_n hx hb dX3_has_0 rfl (lv_at hl 1 rfl) ?_
    refine lv_if_lt (tgt := 16) hx hb dX3_has_1 (by decide) (fun c1 => ?_) (fun c1 => ?_)
    · have hP := (if_pos c1).symm.trans hP
      refine lv_iconst (v := 0) hx hb dX3_has_16 (by decide) ?_
      exact ret_z hx hb hr hlocks hw rfl dX3_has_17 (congrArg (fun z => (z, u)) hP)
    · have hP := (if_neg c1).symm.trans hP
      refine lv_iload_n hx hb dX3_has_4 rfl (lv_at hl 1 rfl) ?_
      refine lv_aload_n hx hb dX3_has_5 rfl (lv_at hl 0 rfl) ?_
      refine va_get (D := D) (ci := 3) (v := .int (s4_i u 0)) (C := RX3) (T := TX3) (N := 4) hx hb htG in_3 hown hK hw.1 2 (xo_2 a k3 u) rfl 3 (by decide) f_22 (fun _ h9 => h9) rfl dX3_has_6 ?_
      refine lv_icmp_ge (tgt := 16) hx hb dX3_has_9 (by decide) (fun c2 => ?_) (fun c2 => ?_)
      · have hP := (if_pos c2).symm.trans hP
        refine lv_iconst (v := 0) hx hb dX3_has_16 (by decide) ?_
        exact ret_z hx hb hr hlocks hw rfl dX3_has_17 (congrArg (fun z => (z, u)) hP)
      · have hP := (if_neg c2).symm.trans hP
        refine lv_iconst (v := 1) hx hb dX3_has_12 (by decide) ?_
        refine lv_goto (tgt := 17) hx hb dX3_has_13 (by decide) ?_
        exact ret_z hx hb hr hlocks hw rfl dX3_has_17 (congrArg (fun z => (z, u)) hP)
  exact hgo _ rfl s.heap [] hw
theorem dX5_setHours_0 : decode cX5_setHours 0 = .ok (.aload_n 0, 1) := by decide +kernel
theorem dX5_setHours_1 : decode cX5_setHours 1 = .ok (.getfield 24, 3) := by decide +kernel
theorem dX5_setHours_4 : decode cX5_setHours 4 = .ok (.iload_n 1, 1) := by decide +kernel
theorem dX5_setHours_5 : decode cX5_setHours 5 = .ok (.iload_n 2, 1) := by decide +kernel
theorem dX5_setHours_6 : decode cX5_setHours 6 = .ok (.iastore, 1) := by decide +kernel
theorem dX5_setHours_7 : decode cX5_setHours 7 = .ok (.aload_n 0, 1) := by decide +kernel
theorem dX5_setHours_8 : decode cX5_setHours 8 = .ok (.getfield 27, 3) := by decide +kernel
theorem dX5_setHours_11 : decode cX5_setHours 11 = .ok (.iload_n 1, 1) := by decide +kernel
theorem dX5_setHours_12 : decode cX5_setHours 12 = .ok (.iload_n 3, 1) := by decide +kernel
theorem dX5_setHours_13 : decode cX5_setHours 13 = .ok (.iastore, 1) := by decide +kernel
theorem dX5_setHours_14 : decode cX5_setHours 14 = .ok (.return_, 1) := by decide +kernel
abbrev rm_xStreets_setHours : Room := { frames := 0, cells := 0, slots := 0, locals := 0 }
def xp_Streets_setHours (u : S4) (x1 : Int32) (x2 : Int32) (x3 : Int32) : S4 :=
  let u2 : S4 := s4_wa u 6 x1 x2
  let u4 : S4 := s4_wa u2 7 x1 x3
  u4
def xq_Streets_setHours (u : S4) (x1 : Int32) (x2 : Int32) (x3 : Int32) : Prop :=
  vp_in x1 12 ∧
  let u2 : S4 := s4_wa u 6 x1 x2
  vp_in x1 12
set_option maxHeartbeats 4000000 in
set_option maxRecDepth 100000 in
theorem xc_Streets_setHours (l : Launch) (D : va_G) (a : Nat → Nat) (k3 : K3) (u : S4) (x1 : Int32) (x2 : Int32) (x3 : Int32) (hq : xq_Streets_setHours u x1 x2 x3) : MV l D vwCl (ty3 k3) nestW (xC a k3) yX5_setHours (kX5_setHours :: tbG) rm_xStreets_setHours [.ref (a 3), .int x1, .int x2, .int x3] u (xp_Streets_setHours u x1 x2 x3) := by
  refine mkV (cc := cX5_setHours) (maxL := 4) (ret := none) (by decide) rfl (Nat.le_of_ble_eq_true rfl) ?_
  intro p e s m below meth c A ls F hw hl
  generalize hav : ([.ref (a 3), .int x1, .int x2, .int x3] : List Value).toArray = av at F ⊢
  have hl : lv_has ls 4 [(0, .ref (a 3)), (1, .int x1), (2, .int x2), (3, .int x3)] := hl
  obtain ⟨hx, hb, hr, hml, hown, hts, hK, hN, hlocks, hA⟩ := id F
  have hown : s.vm.findClass RX5 = some m.cls := hown
  have htG : ∀ w ∈ tbG, w.before av s = true := fun w h => hts w (List.mem_cons_of_mem _ h)
  have f_24 := htG _ tb_75
  have f_27 := htG _ tb_76
  have hgo : ∀ P, xp_Streets_setHours u x1 x2 x3 = P → ∀ (H : Heap) (locs : List Loc), wd D vwCl (xC a k3) A s.heap u H locs → W p l e rm_xStreets_setHours s m av below meth c H locs 0 0 (QV below D vwCl (xC a k3) A av s P) (F0 m 0 ls []) := by
    intro P hP H locs hw
    refine lv_aload_n hx hb dX5_setHours_0 rfl (lv_at hl 0 rfl) ?_
    refine va_get (D := D) (ci := 5) (v := .ref (a 17)) (C := RX5) (T := TX5) (N := 9) hx hb htG in_5 hown hK hw.1 3 (xo_3 a k3 u) rfl 4 (by decide) f_24 (fun _ h9 => h9) rfl dX5_setHours_1 ?_
    refine lv_iload_n hx hb dX5_setHours_4 rfl (lv_at hl 1 rfl) ?_
    refine lv_iload_n hx hb dX5_setHours_5 rfl (lv_at hl 2 rfl) ?_
    obtain ⟨h1, hq⟩ := hq
    let u2 : S4 := s4_wa u 6 x1 x2
    refine y_iast (t0 := 0) hx hb hK hw 6 (xo_17 a k3 u) (xq_17 a k3 u) rfl h1 dX5_setHours_6 (fun H locs (hw : wd D vwCl (xC a k3) A s.heap u2 H locs) => ?_)
    refine lv_aload_n hx hb dX5_setHours_7 rfl (lv_at hl 0 rfl) ?_
    refine va_get (D := D) (ci := 5) (v := .ref (a 18)) (C := RX5) (T := TX5) (N := 9) hx hb htG in_5 hown hK hw.1 3 (xo_3 a k3 u2) rfl 5 (by decide) f_27 (fun _ h9 => h9) rfl dX5_setHours_8 ?_
    refine lv_iload_n hx hb dX5_setHours_11 rfl (lv_at hl 1 rfl) ?_
    refine lv_iload_n hx hb dX5_setHours_12 rfl (lv_at hl 3 rfl) ?_
    have h3 := hq
    let u4 : S4 := s4_wa u2 7 x1 x3
    refine y_iast (t0 := 0) hx hb hK hw 7 (xo_18 a k3 u2) (xq_18 a k3 u2) rfl h3 dX5_setHours_13 (fun H locs (hw : wd D vwCl (xC a k3) A s.heap u4 H locs) => ?_)
    exact ret_v hx hb hr hlocks hw dX5_setHours_14 hP
  exact hgo _ rfl s.heap [] hw
theorem dX5_setGreatest_0 : decode cX5_setGreatest 0 = .ok (.aload_n 0, 1) := by decide +kernel
theorem dX5_setGreatest_1 : decode cX5_setGreatest 1 = .ok (.getfield 30, 3) := by decide +kernel
theorem dX5_setGreatest_4 : decode cX5_setGreatest 4 = .ok (.iload_n 1, 1) := by decide +kernel
theorem dX5_setGreatest_5 : decode cX5_setGreatest 5 = .ok (.iconst 2, 1) := by decide +kernel
theorem dX5_setGreatest_6 : decode cX5_setGreatest 6 = .ok (.imul, 1) := by decide +kernel
theorem dX5_setGreatest_7 : decode cX5_setGreatest 7 = .ok (.iload_n 2, 1) := by decide +kernel
theorem dX5_setGreatest_8 : decode cX5_setGreatest 8 = .ok (.iadd, 1) := by decide +kernel
theorem dX5_setGreatest_9 : decode cX5_setGreatest 9 = .ok (.lload_n 3, 1) := by decide +kernel
theorem dX5_setGreatest_10 : decode cX5_setGreatest 10 = .ok (.lastore, 1) := by decide +kernel
theorem dX5_setGreatest_11 : decode cX5_setGreatest 11 = .ok (.return_, 1) := by decide +kernel
abbrev rm_xStreets_setGreatest : Room := { frames := 0, cells := 0, slots := 0, locals := 0 }
def xp_Streets_setGreatest (u : S4) (x1 : Int32) (x2 : Int32) (x3 : Int64) : S4 :=
  let u2 : S4 := s4_wb u 3 ((x1 * (2 : Int32)) + x2) x3
  u2
def xq_Streets_setGreatest (u : S4) (x1 : Int32) (x2 : Int32) (x3 : Int64) : Prop :=
  vp_in ((x1 * (2 : Int32)) + x2) 24
set_option maxHeartbeats 4000000 in
set_option maxRecDepth 100000 in
theorem xc_Streets_setGreatest (l : Launch) (D : va_G) (a : Nat → Nat) (k3 : K3) (u : S4) (x1 : Int32) (x2 : Int32) (x3 : Int64) (hq : xq_Streets_setGreatest u x1 x2 x3) : MV l D vwCl (ty3 k3) nestW (xC a k3) yX5_setGreatest (kX5_setGreatest :: tbG) rm_xStreets_setGreatest [.ref (a 3), .int x1, .int x2, .long x3] u (xp_Streets_setGreatest u x1 x2 x3) := by
  refine mkV (cc := cX5_setGreatest) (maxL := 5) (ret := none) (by decide) rfl (Nat.le_of_ble_eq_true rfl) ?_
  intro p e s m below meth c A ls F hw hl
  generalize hav : ([.ref (a 3), .int x1, .int x2, .long x3] : List Value).toArray = av at F ⊢
  have hl : lv_has ls 5 [(0, .ref (a 3)), (1, .int x1), (2, .int x2), (3, .long x3)] := hl
  obtain ⟨hx, hb, hr, hml, hown, hts, hK, hN, hlocks, hA⟩ := id F
  have hown : s.vm.findClass RX5 = some m.cls := hown
  have htG : ∀ w ∈ tbG, w.before av s = true := fun w h => hts w (List.mem_cons_of_mem _ h)
  have f_30 := htG _ tb_77
  have hgo : ∀ P, xp_Streets_setGreatest u x1 x2 x3 = P → ∀ (H : Heap) (locs : List Loc), wd D vwCl (xC a k3) A s.heap u H locs → W p l e rm_xStreets_setGreatest s m av below meth c H locs 0 0 (QV below D vwCl (xC a k3) A av s P) (F0 m 0 ls []) := by
    intro P hP H locs hw
    refine lv_aload_n hx hb dX5_setGreatest_0 rfl (lv_at hl 0 rfl) ?_
    refine va_get (D := D) (ci := 5) (v := .ref (a 19)) (C := RX5) (T := TX5) (N := 9) hx hb htG in_5 hown hK hw.1 3 (xo_3 a k3 u) rfl 6 (by decide) f_30 (fun _ h9 => h9) rfl dX5_setGreatest_1 ?_
    refine lv_iload_n hx hb dX5_setGreatest_4 rfl (lv_at hl 1 rfl) ?_
    refine lv_iconst (v := 2) hx hb dX5_setGreatest_5 (by decide) ?_
    refine lv_imul hx hb dX5_setGreatest_6 ?_
    refine lv_iload_n hx hb dX5_setGreatest_7 rfl (lv_at hl 2 rfl) ?_
    refine lv_iadd hx hb dX5_setGreatest_8 ?_
    refine lv_lload_n hx hb dX5_setGreatest_9 rfl (lv_at hl 3 rfl) ?_
    have h1 := hq
    let u2 : S4 := s4_wb u 3 ((x1 * (2 : Int32)) + x2) x3
    refine y_last (t0 := 1) hx hb hK hw 3 (xo_19 a k3 u) (xq_19 a k3 u) rfl h1 dX5_setGreatest_10 (fun H locs (hw : wd D vwCl (xC a k3) A s.heap u2 H locs) => ?_)
    exact ret_v hx hb hr hlocks hw dX5_setGreatest_11 hP
  exact hgo _ rfl s.heap [] hw
theorem dX5_add_0 : decode cX5_add 0 = .ok (.aload_n 0, 1) := by decide +kernel
theorem dX5_add_1 : decode cX5_add 1 = .ok (.getfield 37, 3) := by decide +kernel
theorem dX5_add_4 : decode cX5_add 4 = .ok (.bipush 12, 2) := by decide +kernel
theorem dX5_add_6 : decode cX5_add 6 = .ok (.if_icmp .lt 5, 3) := by decide +kernel
theorem dX5_add_9 : decode cX5_add 9 = .ok (.iconst (-1), 1) := by decide +kernel
theorem dX5_add_10 : decode cX5_add 10 = .ok (.ireturn, 1) := by decide +kernel
theorem dX5_add_11 : decode cX5_add 11 = .ok (.aload_n 0, 1) := by decide +kernel
theorem dX5_add_12 : decode cX5_add 12 = .ok (.getfield 37, 3) := by decide +kernel
theorem dX5_add_15 : decode cX5_add 15 = .ok (.istore 5, 2) := by decide +kernel
theorem dX5_add_17 : decode cX5_add 17 = .ok (.aload_n 0, 1) := by decide +kernel
theorem dX5_add_18 : decode cX5_add 18 = .ok (.dup, 1) := by decide +kernel
theorem dX5_add_19 : decode cX5_add 19 = .ok (.getfield 37, 3) := by decide +kernel
theorem dX5_add_22 : decode cX5_add 22 = .ok (.iconst 1, 1) := by decide +kernel
theorem dX5_add_23 : decode cX5_add 23 = .ok (.iadd, 1) := by decide +kernel
theorem dX5_add_24 : decode cX5_add 24 = .ok (.putfield 37, 3) := by decide +kernel
theorem dX5_add_27 : decode cX5_add 27 = .ok (.aload_n 0, 1) := by decide +kernel
theorem dX5_add_28 : decode cX5_add 28 = .ok (.getfield 11, 3) := by decide +kernel
theorem dX5_add_31 : decode cX5_add 31 = .ok (.iload 5, 2) := by decide +kernel
theorem dX5_add_33 : decode cX5_add 33 = .ok (.iload_n 1, 1) := by decide +kernel
theorem dX5_add_34 : decode cX5_add 34 = .ok (.iastore, 1) := by decide +kernel
theorem dX5_add_35 : decode cX5_add 35 = .ok (.aload_n 0, 1) := by decide +kernel
theorem dX5_add_36 : decode cX5_add 36 = .ok (.getfield 15, 3) := by decide +kernel
theorem dX5_add_39 : decode cX5_add 39 = .ok (.iload 5, 2) := by decide +kernel
theorem dX5_add_41 : decode cX5_add 41 = .ok (.iload_n 2, 1) := by decide +kernel
theorem dX5_add_42 : decode cX5_add 42 = .ok (.iastore, 1) := by decide +kernel
theorem dX5_add_43 : decode cX5_add 43 = .ok (.aload_n 0, 1) := by decide +kernel
theorem dX5_add_44 : decode cX5_add 44 = .ok (.getfield 18, 3) := by decide +kernel
theorem dX5_add_47 : decode cX5_add 47 = .ok (.iload 5, 2) := by decide +kernel
theorem dX5_add_49 : decode cX5_add 49 = .ok (.iload_n 3, 1) := by decide +kernel
theorem dX5_add_50 : decode cX5_add 50 = .ok (.iastore, 1) := by decide +kernel
theorem dX5_add_51 : decode cX5_add 51 = .ok (.aload_n 0, 1) := by decide +kernel
theorem dX5_add_52 : decode cX5_add 52 = .ok (.getfield 21, 3) := by decide +kernel
theorem dX5_add_55 : decode cX5_add 55 = .ok (.iload 5, 2) := by decide +kernel
theorem dX5_add_57 : decode cX5_add 57 = .ok (.iload 4, 2) := by decide +kernel
theorem dX5_add_59 : decode cX5_add 59 = .ok (.iastore, 1) := by decide +kernel
theorem dX5_add_60 : decode cX5_add 60 = .ok (.aload_n 0, 1) := by decide +kernel
theorem dX5_add_61 : decode cX5_add 61 = .ok (.iload 5, 2) := by decide +kernel
theorem dX5_add_63 : decode cX5_add 63 = .ok (.iconst 0, 1) := by decide +kernel
theorem dX5_add_64 : decode cX5_add 64 = .ok (.ldc 41, 2) := by decide +kernel
theorem dX5_add_66 : decode cX5_add 66 = .ok (.invokevirtual 42, 3) := by decide +kernel
theorem dX5_add_69 : decode cX5_add 69 = .ok (.aload_n 0, 1) := by decide +kernel
theorem dX5_add_70 : decode cX5_add 70 = .ok (.iload 5, 2) := by decide +kernel
theorem dX5_add_72 : decode cX5_add 72 = .ok (.iconst 0, 1) := by decide +kernel
theorem dX5_add_73 : decode cX5_add 73 = .ok (.ldc2_w 46, 3) := by decide +kernel
theorem dX5_add_76 : decode cX5_add 76 = .ok (.invokevirtual 48, 3) := by decide +kernel
theorem dX5_add_79 : decode cX5_add 79 = .ok (.aload_n 0, 1) := by decide +kernel
theorem dX5_add_80 : decode cX5_add 80 = .ok (.iload 5, 2) := by decide +kernel
theorem dX5_add_82 : decode cX5_add 82 = .ok (.iconst 1, 1) := by decide +kernel
theorem dX5_add_83 : decode cX5_add 83 = .ok (.ldc2_w 46, 3) := by decide +kernel
theorem dX5_add_86 : decode cX5_add 86 = .ok (.invokevirtual 48, 3) := by decide +kernel
theorem dX5_add_89 : decode cX5_add 89 = .ok (.iload 5, 2) := by decide +kernel
theorem dX5_add_91 : decode cX5_add 91 = .ok (.ireturn, 1) := by decide +kernel
abbrev rm_xStreets_add : Room := { frames := 1, cells := 0, slots := 0, locals := 24 }
def xp_Streets_add (u : S4) (x1 : Int32) (x2 : Int32) (x3 : Int32) (x4 : Int32) : Int32 × S4 :=
  if (s4_i u 1) < (12 : Int32) then
    let v2 : Int32 := (s4_i u 1)
    let v3 : Int32 := ((s4_i u 1) + (1 : Int32))
    let u4 : S4 := s4_si u 1 v3
    let u6 : S4 := s4_wa u4 2 v2 x1
    let u8 : S4 := s4_wa u6 3 v2 x2
    let u10 : S4 := s4_wa u8 4 v2 x3
    let u12 : S4 := s4_wa u10 5 v2 x4
    let u14 : S4 := xp_Streets_setHours u12 v2 (0 : Int32) (86399 : Int32)
    let u16 : S4 := xp_Streets_setGreatest u14 v2 (0 : Int32) (1000000 : Int64)
    let u18 : S4 := xp_Streets_setGreatest u16 v2 (1 : Int32) (1000000 : Int64)
    (v2, u18)
  else
    ((-1 : Int32), u)
def xq_Streets_add (u : S4) (x1 : Int32) (x2 : Int32) (x3 : Int32) (x4 : Int32) : Prop :=
  ((s4_i u 1) < (12 : Int32) →
    let v2 : Int32 := (s4_i u 1)
    let v3 : Int32 := ((s4_i u 1) + (1 : Int32))
    let u4 : S4 := s4_si u 1 v3
    vp_in v2 12 ∧
    let u6 : S4 := s4_wa u4 2 v2 x1
    vp_in v2 12 ∧
    let u8 : S4 := s4_wa u6 3 v2 x2
    vp_in v2 12 ∧
    let u10 : S4 := s4_wa u8 4 v2 x3
    vp_in v2 12 ∧
    let u12 : S4 := s4_wa u10 5 v2 x4
    xq_Streets_setHours u12 v2 (0 : Int32) (86399 : Int32) ∧
    let u14 : S4 := xp_Streets_setHours u12 v2 (0 : Int32) (86399 : Int32)
    xq_Streets_setGreatest u14 v2 (0 : Int32) (1000000 : Int64) ∧
    let u16 : S4 := xp_Streets_setGreatest u14 v2 (0 : Int32) (1000000 : Int64)
    xq_Streets_setGreatest u16 v2 (1 : Int32) (1000000 : Int64))
set_option maxHeartbeats 4000000 in
set_option maxRecDepth 100000 in
theorem xc_Streets_add (l : Launch) (D : va_G) (a : Nat → Nat) (k3 : K3) (u : S4) (x1 : Int32) (x2 : Int32) (x3 : Int32) (x4 : Int32) (hq : xq_Streets_add u x1 x2 x3 x4) : MI l D vwCl (ty3 k3) nestW (xC a k3) yX5_add (kX5_add :: tbG) rm_xStreets_add [.ref (a 3), .int x1, .int x2, .int x3, .int x4] u (xp_Streets_add u x1 x2 x3 x4) := by
  refine mkI (cc := cX5_add) (maxL := 6) (ret := (some .int)) (by decide) rfl (Nat.le_of_ble_eq_true rfl) ?_
  intro p e s m below meth c A ls F hw hl
  generalize hav : ([.ref (a 3), .int x1, .int x2, .int x3, .int x4] : List Value).toArray = av at F ⊢
  have hl : lv_has ls 6 [(0, .ref (a 3)), (1, .int x1), (2, .int x2), (3, .int x3), (4, .int x4)] := hl
  obtain ⟨hx, hb, hr, hml, hown, hts, hK, hN, hlocks, hA⟩ := id F
  have hown : s.vm.findClass RX5 = some m.cls := hown
  have htG : ∀ w ∈ tbG, w.before av s = true := fun w h => hts w (List.mem_cons_of_mem _ h)
  have f_37 := htG _ tb_79
  have f_11 := htG _ tb_71
  have f_15 := htG _ tb_72
  have f_18 := htG _ tb_73
  have f_21 := htG _ tb_74
  have k_41 := htG _ tb_226
  have k_46 := htG _ tb_231
  have hgo : ∀ P, xp_Streets_add u x1 x2 x3 x4 = P → ∀ (H : Heap) (locs : List Loc), wd D vwCl (xC a k3) A s.heap u H locs → W p l e rm_xStreets_add s m av below meth c H locs 0 0 (QI below D vwCl (xC a k3) A av s P) (F0 m 0 ls []) := by
    intro P hP H locs hw
    refine lv_aload_n hx hb dX5_add_0 rfl (lv_at hl 0 rfl) ?_
    refine va_get (D := D) (ci := 5) (v := .int (s4_i u 1)) (C := RX5) (T := TX5) (N := 9) hx hb htG in_5 hown hK hw.1 3 (xo_3 a k3 u) rfl 8 (by decide) f_37 (fun _ h9 => h9) rfl dX5_add_1 ?_
    refine lv_bipush (v := 12) hx hb dX5_add_4 (by decide) ?_
    refine lv_icmp_lt (tgt := 11) hx hb dX5_add_6 (by decide) (fun c1 => ?_) (fun c1 => ?_)
    · have hP := (if_pos c1).symm.trans hP
      have hq := hq c1
      refine lv_aload_n hx hb dX5_add_11 rfl (lv_at hl 0 rfl) ?_
      refine va_get (D := D) (ci := 5) (v := .int (s4_i u 1)) (C := RX5) (T := TX5) (N := 9) hx hb htG in_5 hown hK hw.1 3 (xo_3 a k3 u) rfl 8 (by decide) f_37 (fun _ h9 => h9) rfl dX5_add_12 ?_
      let v2 : Int32 := (s4_i u 1)
      refine lv_istore (lv' := [(5, .int v2), (0, .ref (a 3)), (1, .int x1), (2, .int x2), (3, .int x3), (4, .int x4)]) hx hb dX5_add_15 hl (by decide) rfl (fun ls hl => ?_)
      refine lv_aload_n hx hb dX5_add_17 rfl (lv_at hl 1 rfl) ?_
      refine lv_dup hx hb dX5_add_18 rfl ?_
      refine va_get (D := D) (ci := 5) (v := .int (s4_i u 1)) (C := RX5) (T := TX5) (N := 9) hx hb htG in_5 hown hK hw.1 3 (xo_3 a k3 u) rfl 8 (by decide) f_37 (fun _ h9 => h9) rfl dX5_add_19 ?_
      refine lv_iconst (v := 1) hx hb dX5_add_22 (by decide) ?_
      refine lv_iadd hx hb dX5_add_23 ?_
      let v3 : Int32 := ((s4_i u 1) + (1 : Int32))
      let u4 : S4 := s4_si u 1 v3
      refine y_puti hx hb htG in_5 tyX5 tyX5_ok nX5 hown hK hw 1 (xo_3 a k3 u) rfl 8 (by decide) f_37 (fun _ h9 => h9) rfl (by decide +kernel) (Nat.le_of_ble_eq_true rfl) (xt_i1 a k3 u v3) dX5_add_24 (fun H locs (hw : wd D vwCl (xC a k3) A s.heap u4 H locs) => ?_)
      refine lv_aload_n hx hb dX5_add_27 rfl (lv_at hl 1 rfl) ?_
      refine va_get (D := D) (ci := 5) (v := .ref (a 13)) (C := RX5) (T := TX5) (N := 9) hx hb htG in_5 hown hK hw.1 3 (xo_3 a k3 u4) rfl 0 (by decide) f_11 (fun _ h9 => h9) rfl dX5_add_28 ?_
      refine lv_iload hx hb dX5_add_31 (lv_at hl 0 rfl) ?_
      refine lv_iload_n hx hb dX5_add_33 rfl (lv_at hl 2 rfl) ?_
      obtain ⟨h5, hq⟩ := hq
      let u6 : S4 := s4_wa u4 2 v2 x1
      refine y_iast (t0 := 0) hx hb hK hw 2 (xo_13 a k3 u4) (xq_13 a k3 u4) rfl h5 dX5_add_34 (fun H locs (hw : wd D vwCl (xC a k3) A s.heap u6 H locs) => ?_)
      refine lv_aload_n hx hb dX5_add_35 rfl (lv_at hl 1 rfl) ?_
      refine va_get (D := D) (ci := 5) (v := .ref (a 14)) (C := RX5) (T := TX5) (N := 9) hx hb htG in_5 hown hK hw.1 3 (xo_3 a k3 u6) rfl 1 (by decide) f_15 (fun _ h9 => h9) rfl dX5_add_36 ?_
      refine lv_iload hx hb dX5_add_39 (lv_at hl 0 rfl) ?_
      refine lv_iload_n hx hb dX5_add_41 rfl (lv_at hl 3 rfl) ?_
      obtain ⟨h7, hq⟩ := hq
      let u8 : S4 := s4_wa u6 3 v2 x2
      refine y_iast (t0 := 0) hx hb hK hw 3 (xo_14 a k3 u6) (xq_14 a k3 u6) rfl h7 dX5_add_42 (fun H locs (hw : wd D vwCl (xC a k3) A s.heap u8 H locs) => ?_)
      refine lv_aload_n hx hb dX5_add_43 rfl (lv_at hl 1 rfl) ?_
      refine va_get (D := D) (ci := 5) (v := .ref (a 15)) (C := RX5) (T := TX5) (N := 9) hx hb htG in_5 hown hK hw.1 3 (xo_3 a k3 u8) rfl 2 (by decide) f_18 (fun _ h9 => h9) rfl dX5_add_44 ?_
      refine lv_iload hx hb dX5_add_47 (lv_at hl 0 rfl) ?_
      refine lv_iload_n hx hb dX5_add_49 rfl (lv_at hl 4 rfl) ?_
      obtain ⟨h9, hq⟩ := hq
      let u10 : S4 := s4_wa u8 4 v2 x3
      refine y_iast (t0 := 0) hx hb hK hw 4 (xo_15 a k3 u8) (xq_15 a k3 u8) rfl h9 dX5_add_50 (fun H locs (hw : wd D vwCl (xC a k3) A s.heap u10 H locs) => ?_)
      refine lv_aload_n hx hb dX5_add_51 rfl (lv_at hl 1 rfl) ?_
      refine va_get (D := D) (ci := 5) (v := .ref (a 16)) (C := RX5) (T := TX5) (N := 9) hx hb htG in_5 hown hK hw.1 3 (xo_3 a k3 u10) rfl 3 (by decide) f_21 (fun _ h9 => h9) rfl dX5_add_52 ?_
      refine lv_iload hx hb dX5_add_55 (lv_at hl 0 rfl) ?_
      refine lv_iload hx hb dX5_add_57 (lv_at hl 5 rfl) ?_
      obtain ⟨h11, hq⟩ := hq
      let u12 : S4 := s4_wa u10 5 v2 x4
      refine y_iast (t0 := 0) hx hb hK hw 5 (xo_16 a k3 u10) (xq_16 a k3 u10) rfl h11 dX5_add_59 (fun H locs (hw : wd D vwCl (xC a k3) A s.heap u12 H locs) => ?_)
      refine lv_aload_n hx hb dX5_add_60 rfl (lv_at hl 1 rfl) ?_
      refine lv_iload hx hb dX5_add_61 (lv_at hl 0 rfl) ?_
      refine lv_iconst (v := 0) hx hb dX5_add_63 (by decide) ?_
      refine lv_ldc (v := 86399) hx hb hown k_41 dX5_add_64 ?_
      obtain ⟨h13, hq⟩ := hq
      let u14 : S4 := xp_Streets_setHours u12 v2 (0 : Int32) (86399 : Int32)
      refine call_vv (rest := []) ⟨hx, hb, hml, hown, htG⟩ nestW_ok hK hN hA (xc_Streets_setHours l D a k3 u12 v2 (0 : Int32) (86399 : Int32) h13) (cwV 3 htG (tb_V tb_227 tb_228 tb_229 tb_23 tb_230) rfl rfl rfl (by decide +kernel) ⟨Nat.le_of_ble_eq_true rfl, Nat.le_of_ble_eq_true rfl⟩) (ci := 5) rfl (xo_3 a k3 u12) rfl hw rfl hl.1 rfl (Nat.le_of_ble_eq_true rfl) dX5_add_66 ⟨Nat.zero_le _, Nat.zero_le _⟩ (fun H locs (hw : wd D vwCl (xC a k3) A s.heap u14 H locs) => ?_)
      refine lv_aload_n hx hb dX5_add_69 rfl (lv_at hl 1 rfl) ?_
      refine lv_iload hx hb dX5_add_70 (lv_at hl 0 rfl) ?_
      refine lv_iconst (v := 0) hx hb dX5_add_72 (by decide) ?_
      refine lv_ldc2 (v := 1000000) hx hb hown k_46 dX5_add_73 ?_
      obtain ⟨h15, hq⟩ := hq
      let u16 : S4 := xp_Streets_setGreatest u14 v2 (0 : Int32) (1000000 : Int64)
      refine call_vv (rest := []) ⟨hx, hb, hml, hown, htG⟩ nestW_ok hK hN hA (xc_Streets_setGreatest l D a k3 u14 v2 (0 : Int32) (1000000 : Int64) h15) (cwV 3 htG (tb_V tb_232 tb_233 tb_234 tb_23 tb_235) rfl rfl rfl (by decide +kernel) ⟨Nat.le_of_ble_eq_true rfl, Nat.le_of_ble_eq_true rfl⟩) (ci := 5) rfl (xo_3 a k3 u14) rfl hw rfl hl.1 rfl (Nat.le_of_ble_eq_true rfl) dX5_add_76 ⟨Nat.zero_le _, Nat.zero_le _⟩ (fun H locs (hw : wd D vwCl (xC a k3) A s.heap u16 H locs) => ?_)
      refine lv_aload_n hx hb dX5_add_79 rfl (lv_at hl 1 rfl) ?_
      refine lv_iload hx hb dX5_add_80 (lv_at hl 0 rfl) ?_
      refine lv_iconst (v := 1) hx hb dX5_add_82 (by decide) ?_
      refine lv_ldc2 (v := 1000000) hx hb hown k_46 dX5_add_83 ?_
      have h17 := hq
      let u18 : S4 := xp_Streets_setGreatest u16 v2 (1 : Int32) (1000000 : Int64)
      refine call_vv (rest := []) ⟨hx, hb, hml, hown, htG⟩ nestW_ok hK hN hA (xc_Streets_setGreatest l D a k3 u16 v2 (1 : Int32) (1000000 : Int64) h17) (cwV 3 htG (tb_V tb_232 tb_233 tb_234 tb_23 tb_235) rfl rfl rfl (by decide +kernel) ⟨Nat.le_of_ble_eq_true rfl, Nat.le_of_ble_eq_true rfl⟩) (ci := 5) rfl (xo_3 a k3 u16) rfl hw rfl hl.1 rfl (Nat.le_of_ble_eq_true rfl) dX5_add_86 ⟨Nat.zero_le _, Nat.zero_le _⟩ (fun H locs (hw : wd D vwCl (xC a k3) A s.heap u18 H locs) => ?_)
      refine lv_iload hx hb dX5_add_89 (lv_at hl 0 rfl) ?_
      exact ret_i hx hb hr hlocks hw dX5_add_91 hP
    · have hP := (if_neg c1).symm.trans hP
      refine lv_iconst (v := -1) hx hb dX5_add_9 (by decide) ?_
      exact ret_i hx hb hr hlocks hw dX5_add_10 hP
  exact hgo _ rfl s.heap [] hw
theorem dX7_street_0 : decode cX7_street 0 = .ok (.aload_n 0, 1) := by decide +kernel
theorem dX7_street_1 : decode cX7_street 1 = .ok (.getfield 12, 3) := by decide +kernel
theorem dX7_street_4 : decode cX7_street 4 = .ok (.getfield 41, 3) := by decide +kernel
theorem dX7_street_7 : decode cX7_street 7 = .ok (.iload_n 1, 1) := by decide +kernel
theorem dX7_street_8 : decode cX7_street 8 = .ok (.invokevirtual 51, 3) := by decide +kernel
theorem dX7_street_11 : decode cX7_street 11 = .ok (.ifCond .eq 22, 3) := by decide +kernel
theorem dX7_street_14 : decode cX7_street 14 = .ok (.aload_n 0, 1) := by decide +kernel
theorem dX7_street_15 : decode cX7_street 15 = .ok (.getfield 12, 3) := by decide +kernel
theorem dX7_street_18 : decode cX7_street 18 = .ok (.getfield 41, 3) := by decide +kernel
theorem dX7_street_21 : decode cX7_street 21 = .ok (.iload_n 2, 1) := by decide +kernel
theorem dX7_street_22 : decode cX7_street 22 = .ok (.invokevirtual 51, 3) := by decide +kernel
theorem dX7_street_25 : decode cX7_street 25 = .ok (.ifCond .eq 8, 3) := by decide +kernel
theorem dX7_street_28 : decode cX7_street 28 = .ok (.iload_n 1, 1) := by decide +kernel
theorem dX7_street_29 : decode cX7_street 29 = .ok (.iload_n 2, 1) := by decide +kernel
theorem dX7_street_30 : decode cX7_street 30 = .ok (.if_icmp .ne 5, 3) := by decide +kernel
theorem dX7_street_33 : decode cX7_street 33 = .ok (.iconst (-1), 1) := by decide +kernel
theorem dX7_street_34 : decode cX7_street 34 = .ok (.ireturn, 1) := by decide +kernel
theorem dX7_street_35 : decode cX7_street 35 = .ok (.iload_n 3, 1) := by decide +kernel
theorem dX7_street_36 : decode cX7_street 36 = .ok (.iconst 1, 1) := by decide +kernel
theorem dX7_street_37 : decode cX7_street 37 = .ok (.if_icmp .lt 10, 3) := by decide +kernel
theorem dX7_street_40 : decode cX7_street 40 = .ok (.iload_n 3, 1) := by decide +kernel
theorem dX7_street_41 : decode cX7_street 41 = .ok (.sipush 10000, 3) := by decide +kernel
theorem dX7_street_44 : decode cX7_street 44 = .ok (.if_icmp .le 5, 3) := by decide +kernel
theorem dX7_street_47 : decode cX7_street 47 = .ok (.iconst (-1), 1) := by decide +kernel
theorem dX7_street_48 : decode cX7_street 48 = .ok (.ireturn, 1) := by decide +kernel
theorem dX7_street_49 : decode cX7_street 49 = .ok (.iload 4, 2) := by decide +kernel
theorem dX7_street_51 : decode cX7_street 51 = .ok (.ifCond .lt 9, 3) := by decide +kernel
theorem dX7_street_54 : decode cX7_street 54 = .ok (.iload 4, 2) := by decide +kernel
theorem dX7_street_56 : decode cX7_street 56 = .ok (.iconst 3, 1) := by decide +kernel
theorem dX7_street_57 : decode cX7_street 57 = .ok (.if_icmp .le 5, 3) := by decide +kernel
theorem dX7_street_60 : decode cX7_street 60 = .ok (.iconst (-1), 1) := by decide +kernel
theorem dX7_street_61 : decode cX7_street 61 = .ok (.ireturn, 1) := by decide +kernel
theorem dX7_street_62 : decode cX7_street 62 = .ok (.aload_n 0, 1) := by decide +kernel
theorem dX7_street_63 : decode cX7_street 63 = .ok (.getfield 12, 3) := by decide +kernel
theorem dX7_street_66 : decode cX7_street 66 = .ok (.getfield 55, 3) := by decide +kernel
theorem dX7_street_69 : decode cX7_street 69 = .ok (.iload_n 1, 1) := by decide +kernel
theorem dX7_street_70 : decode cX7_street 70 = .ok (.iload_n 2, 1) := by decide +kernel
theorem dX7_street_71 : decode cX7_street 71 = .ok (.iload_n 3, 1) := by decide +kernel
theorem dX7_street_72 : decode cX7_street 72 = .ok (.iload 4, 2) := by decide +kernel
theorem dX7_street_74 : decode cX7_street 74 = .ok (.invokevirtual 59, 3) := by decide +kernel
theorem dX7_street_77 : decode cX7_street 77 = .ok (.ireturn, 1) := by decide +kernel
abbrev rm_xO_street : Room := { frames := 2, cells := 0, slots := 0, locals := 49 }
def xp_O_street (u : S4) (x1 : Int32) (x2 : Int32) (x3 : Int32) (x4 : Int32) : Int32 × S4 :=
  let r1 : Int32 := xp_Nodes_has u x1
  if r1 = (0 : Int32) then
    ((-1 : Int32), u)
  else
    let r3 : Int32 := xp_Nodes_has u x2
    if r3 = (0 : Int32) then
      ((-1 : Int32), u)
    else
      if x1 = x2 then
        ((-1 : Int32), u)
      else
        if x3 < (1 : Int32) then
          ((-1 : Int32), u)
        else
          if x3 ≤ (10000 : Int32) then
            if x4 < (0 : Int32) then
              ((-1 : Int32), u)
            else
              if x4 ≤ (3 : Int32) then
                let r11 : Int32 × S4 := xp_Streets_add u x1 x2 x3 x4
                (r11.1, r11.2)
              else
                ((-1 : Int32), u)
          else
            ((-1 : Int32), u)
def xq_O_street (u : S4) (x1 : Int32) (x2 : Int32) (x3 : Int32) (x4 : Int32) : Prop :=
  let r1 : Int32 := xp_Nodes_has u x1
  (¬ r1 = (0 : Int32) →
    let r3 : Int32 := xp_Nodes_has u x2
    (¬ r3 = (0 : Int32) →
      (¬ x1 = x2 →
        (¬ x3 < (1 : Int32) →
          (x3 ≤ (10000 : Int32) →
            (¬ x4 < (0 : Int32) →
              (x4 ≤ (3 : Int32) →
                xq_Streets_add u x1 x2 x3 x4)))))))
set_option maxHeartbeats 4000000 in
set_option maxRecDepth 100000 in
theorem xc_O_street (l : Launch) (D : va_G) (a : Nat → Nat) (k3 : K3) (u : S4) (x1 : Int32) (x2 : Int32) (x3 : Int32) (x4 : Int32) (hq : xq_O_street u x1 x2 x3 x4) : MI l D vwCl (ty3 k3) nestW (xC a k3) yX7_street (kX7_street :: tbG) rm_xO_street [.ref (a 0), .int x1, .int x2, .int x3, .int x4] u (xp_O_street u x1 x2 x3 x4) := by
  refine mkI (cc := cX7_street) (maxL := 5) (ret := (some .int)) (by decide) rfl (Nat.le_of_ble_eq_true rfl) ?_
  intro p e s m below meth c A ls F hw hl
  generalize hav : ([.ref (a 0), .int x1, .int x2, .int x3, .int x4] : List Value).toArray = av at F ⊢
  have hl : lv_has ls 5 [(0, .ref (a 0)), (1, .int x1), (2, .int x2), (3, .int x3), (4, .int x4)] := hl
  obtain ⟨hx, hb, hr, hml, hown, hts, hK, hN, hlocks, hA⟩ := id F
  have hown : s.vm.findClass RX7 = some m.cls := hown
  have htG : ∀ w ∈ tbG, w.before av s = true := fun w h => hts w (List.mem_cons_of_mem _ h)
  have f_12 := htG _ tb_188
  have f_41 := va_Nw.use (A := av) rfl (hN _ nw_4)
  have f_55 := va_Nw.use (A := av) rfl (hN _ nw_6)
  have hgo : ∀ P, xp_O_street u x1 x2 x3 x4 = P → ∀ (H : Heap) (locs : List Loc), wd D vwCl (xC a k3) A s.heap u H locs → W p l e rm_xO_street s m av below meth c H locs 0 0 (QI below D vwCl (xC a k3) A av s P) (F0 m 0 ls []) := by
    intro P hP H locs hw
    refine lv_aload_n hx hb dX7_street_0 rfl (lv_at hl 0 rfl) ?_
    refine va_get (D := D) (ci := 7) (v := .ref (a 1)) (C := RX7) (T := TX7) (N := 4) hx hb htG in_7 hown hK hw.1 0 (xo_0 a k3 u) rfl 0 (by decide) f_12 (fun _ h9 => h9) rfl dX7_street_1 ?_
    refine va_getN (D := D) (ci := 2) (v := .ref (a 2)) (C := RX2) (T := TX2) (N := 5) hx hb htG in_2 hown hK hw.1 1 (xo_1 a k3 u) rfl 0 (by decide) f_41 (fun _ h9 => h9) rfl dX7_street_4 ?_
    refine lv_iload_n hx hb dX7_street_7 rfl (lv_at hl 1 rfl) ?_
    let r1 : Int32 := xp_Nodes_has u x1
    refine call_vir (rest := []) ⟨hx, hb, hml, hown, htG⟩ nestW_ok hK hN hA (xc_Nodes_has l D a k3 u x1) (cwV 1 htG (tb_V tb_218 tb_219 tb_220 tb_22 tb_221) rfl rfl rfl (by decide +kernel) ⟨Nat.le_of_ble_eq_true rfl, Nat.le_of_ble_eq_true rfl⟩) (ci := 3) rfl (xo_2 a k3 u) rfl hw rfl hl.1 rfl (Nat.le_of_ble_eq_true rfl) dX7_street_8 ⟨Nat.zero_le _, Nat.zero_le _⟩ (fun H locs (hw : wd D vwCl (xC a k3) A s.heap u H locs) => ?_)
    refine lv_if_eq (tgt := 33) hx hb dX7_street_11 (by decide) (fun c2 => ?_) (fun c2 => ?_)
    · have hP := (if_pos c2).symm.trans hP
      refine lv_iconst (v := -1) hx hb dX7_street_33 (by decide) ?_
      exact ret_i hx hb hr hlocks hw dX7_street_34 hP
    · have hP := (if_neg c2).symm.trans hP
      have hq := hq c2
      refine lv_aload_n hx hb dX7_street_14 rfl (lv_at hl 0 rfl) ?_
      refine va_get (D := D) (ci := 7) (v := .ref (a 1)) (C := RX7) (T := TX7) (N := 4) hx hb htG in_7 hown hK hw.1 0 (xo_0 a k3 u) rfl 0 (by decide) f_12 (fun _ h9 => h9) rfl dX7_street_15 ?_
      refine va_getN (D := D) (ci := 2) (v := .ref (a 2)) (C := RX2) (T := TX2) (N := 5) hx hb htG in_2 hown hK hw.1 1 (xo_1 a k3 u) rfl 0 (by decide) f_41 (fun _ h9 => h9) rfl dX7_street_18 ?_
      refine lv_iload_n hx hb dX7_street_21 rfl (lv_at hl 2 rfl) ?_
      let r3 : Int32 := xp_Nodes_has u x2
      refine call_vir (rest := []) ⟨hx, hb, hml, hown, htG⟩ nestW_ok hK hN hA (xc_Nodes_has l D a k3 u x2) (cwV 1 htG (tb_V tb_218 tb_219 tb_220 tb_22 tb_221) rfl rfl rfl (by decide +kernel) ⟨Nat.le_of_ble_eq_true rfl, Nat.le_of_ble_eq_true rfl⟩) (ci := 3) rfl (xo_2 a k3 u) rfl hw rfl hl.1 rfl (Nat.le_of_ble_eq_true rfl) dX7_street_22 ⟨Nat.zero_le _, Nat.zero_le _⟩ (fun H locs (hw : wd D vwCl (xC a k3) A s.heap u H locs) => ?_)
      refine lv_if_eq (tgt := 33) hx hb dX7_street_25 (by decide) (fun c4 => ?_) (fun c4 => ?_)
      · have hP := (if_pos c4).symm.trans hP
        refine lv_iconst (v := -1) hx hb dX7_street_33 (by decide) ?_
        exact ret_i hx hb hr hlocks hw dX7_street_34 hP
      · have hP := (if_neg c4).symm.trans hP
        have hq := hq c4
        refine lv_iload_n hx hb dX7_street_28 rfl (lv_at hl 1 rfl) ?_
        refine lv_iload_n hx hb dX7_street_29 rfl (lv_at hl 2 rfl) ?_
        refine lv_icmp_ne (tgt := 35) hx hb dX7_street_30 (by decide) (fun c5 => ?_) (fun c5 => ?_)
        · have hP := (if_neg c5).symm.trans hP
          have hq := hq c5
          refine lv_iload_n hx hb dX7_street_35 rfl (lv_at hl 3 rfl) ?_
          refine lv_iconst (v := 1) hx hb dX7_street_36 (by decide) ?_
          refine lv_icmp_lt (tgt := 47) hx hb dX7_street_37 (by decide) (fun c6 => ?_) (fun c6 => ?_)
          · have hP := (if_pos c6).symm.trans hP
            refine lv_iconst (v := -1) hx hb dX7_street_47 (by decide) ?_
            exact ret_i hx hb hr hlocks hw dX7_street_48 hP
          · have hP := (if_neg c6).symm.trans hP
            have hq := hq c6
            refine lv_iload_n hx hb dX7_street_40 rfl (lv_at hl 3 rfl) ?_
            refine lv_sipush (v := 10000) hx hb dX7_street_41 (by decide) ?_
            refine lv_icmp_le (tgt := 49) hx hb dX7_street_44 (by decide) (fun c7 => ?_) (fun c7 => ?_)
            · have hP := (if_pos c7).symm.trans hP
              have hq := hq c7
              refine lv_iload hx hb dX7_street_49 (lv_at hl 4 rfl) ?_
              refine lv_if_lt (tgt := 60) hx hb dX7_street_51 (by decide) (fun c8 => ?_) (fun c8 => ?_)
              · have hP := (if_pos c8).symm.trans hP
                refine lv_iconst (v := -1) hx hb dX7_street_60 (by decide) ?_
                exact ret_i hx hb hr hlocks hw dX7_street_61 hP
              · have hP := (if_neg c8).symm.trans hP
                have hq := hq c8
                refine lv_iload hx hb dX7_street_54 (lv_at hl 4 rfl) ?_
                refine lv_iconst (v := 3) hx hb dX7_street_56 (by decide) ?_
                refine lv_icmp_le (tgt := 62) hx hb dX7_street_57 (by decide) (fun c9 => ?_) (fun c9 => ?_)
                · have hP := (if_pos c9).symm.trans hP
                  have hq := hq c9
                  refine lv_aload_n hx hb dX7_street_62 rfl (lv_at hl 0 rfl) ?_
                  refine va_get (D := D) (ci := 7) (v := .ref (a 1)) (C := RX7) (T := TX7) (N := 4) hx hb htG in_7 hown hK hw.1 0 (xo_0 a k3 u) rfl 0 (by decide) f_12 (fun _ h9 => h9) rfl dX7_street_63 ?_
                  refine va_getN (D := D) (ci := 2) (v := .ref (a 3)) (C := RX2) (T := TX2) (N := 5) hx hb htG in_2 hown hK hw.1 1 (xo_1 a k3 u) rfl 1 (by decide) f_55 (fun _ h9 => h9) rfl dX7_street_66 ?_
                  refine lv_iload_n hx hb dX7_street_69 rfl (lv_at hl 1 rfl) ?_
                  refine lv_iload_n hx hb dX7_street_70 rfl (lv_at hl 2 rfl) ?_
                  refine lv_iload_n hx hb dX7_street_71 rfl (lv_at hl 3 rfl) ?_
                  refine lv_iload hx hb dX7_street_72 (lv_at hl 4 rfl) ?_
                  have h10 := hq
                  let r11 : Int32 × S4 := xp_Streets_add u x1 x2 x3 x4
                  refine call_vi (rest := []) ⟨hx, hb, hml, hown, htG⟩ nestW_ok hK hN hA (xc_Streets_add l D a k3 u x1 x2 x3 x4 h10) (cwV 4 htG (tb_V tb_222 tb_223 tb_224 tb_23 tb_225) rfl rfl rfl (by decide +kernel) ⟨Nat.le_of_ble_eq_true rfl, Nat.le_of_ble_eq_true rfl⟩) (ci := 5) rfl (xo_3 a k3 u) rfl hw rfl hl.1 rfl (Nat.le_of_ble_eq_true rfl) dX7_street_74 ⟨Nat.zero_le _, Nat.zero_le _⟩ (fun H locs (hw : wd D vwCl (xC a k3) A s.heap r11.2 H locs) => ?_)
                  exact ret_i hx hb hr hlocks hw dX7_street_77 hP
                · have hP := (if_neg c9).symm.trans hP
                  refine lv_iconst (v := -1) hx hb dX7_street_60 (by decide) ?_
                  exact ret_i hx hb hr hlocks hw dX7_street_61 hP
            · have hP := (if_neg c7).symm.trans hP
              refine lv_iconst (v := -1) hx hb dX7_street_47 (by decide) ?_
              exact ret_i hx hb hr hlocks hw dX7_street_48 hP
        · have hP := (if_pos c5).symm.trans hP
          refine lv_iconst (v := -1) hx hb dX7_street_33 (by decide) ?_
          exact ret_i hx hb hr hlocks hw dX7_street_34 hP
  exact hgo _ rfl s.heap [] hw
theorem dX5_has_0 : decode cX5_has 0 = .ok (.iload_n 1, 1) := by decide +kernel
theorem dX5_has_1 : decode cX5_has 1 = .ok (.ifCond .lt 15, 3) := by decide +kernel
theorem dX5_has_4 : decode cX5_has 4 = .ok (.iload_n 1, 1) := by decide +kernel
theorem dX5_has_5 : decode cX5_has 5 = .ok (.aload_n 0, 1) := by decide +kernel
theorem dX5_has_6 : decode cX5_has 6 = .ok (.getfield 37, 3) := by decide +kernel
theorem dX5_has_9 : decode cX5_has 9 = .ok (.if_icmp .ge 7, 3) := by decide +kernel
theorem dX5_has_12 : decode cX5_has 12 = .ok (.iconst 1, 1) := by decide +kernel
theorem dX5_has_13 : decode cX5_has 13 = .ok (.goto 4, 3) := by decide +kernel
theorem dX5_has_16 : decode cX5_has 16 = .ok (.iconst 0, 1) := by decide +kernel
theorem dX5_has_17 : decode cX5_has 17 = .ok (.ireturn, 1) := by decide +kernel
abbrev rm_xStreets_has : Room := { frames := 0, cells := 0, slots := 0, locals := 0 }
def xp_Streets_has (u : S4) (x1 : Int32) : Int32 :=
  if x1 < (0 : Int32) then
    (0 : Int32)
  else
    if (s4_i u 1) ≤ x1 then
      (0 : Int32)
    else
      (1 : Int32)
set_option maxHeartbeats 4000000 in
set_option maxRecDepth 100000 in
theorem xc_Streets_has (l : Launch) (D : va_G) (a : Nat → Nat) (k3 : K3) (u : S4) (x1 : Int32) : MI l D vwCl (ty3 k3) nestW (xC a k3) yX5_has (kX5_has :: tbG) rm_xStreets_has [.ref (a 3), .int x1] u (xp_Streets_has u x1, u) := by
  refine mkI (cc := cX5_has) (maxL := 2) (ret := (some .boolean)) (by decide) rfl (Nat.le_of_ble_eq_true rfl) ?_
  intro p e s m below meth c A ls F hw hl
  generalize hav : ([.ref (a 3), .int x1] : List Value).toArray = av at F ⊢
  have hl : lv_has ls 2 [(0, .ref (a 3)), (1, .int x1)] := hl
  obtain ⟨hx, hb, hr, hml, hown, hts, hK, hN, hlocks, hA⟩ := id F
  have hown : s.vm.findClass RX5 = some m.cls := hown
  have htG : ∀ w ∈ tbG, w.before av s = true := fun w h => hts w (List.mem_cons_of_mem _ h)
  have f_37 := htG _ tb_79
  have hgo : ∀ P, xp_Streets_has u x1 = P → ∀ (H : Heap) (locs : List Loc), wd D vwCl (xC a k3) A s.heap u H locs → W p l e rm_xStreets_has s m av below meth c H locs 0 0 (QI below D vwCl (xC a k3) A av s (P, u)) (F0 m 0 ls []) := by
    intro P hP H locs hw
    refine lv_iload_n hx hb dX5_has_0 rfl (lv_at hl 1 rfl) ?_
    refine lv_if_lt (tgt := 16) hx hb dX5_has_1 (by decide) (fun c1 => ?_) (fun c1 => ?_)
    · have hP := (if_pos c1).symm.trans hP
      refine lv_iconst (v := 0) hx hb dX5_has_16 (by decide) ?_
      exact ret_z hx hb hr hlocks hw rfl dX5_has_17 (congrArg (fun z => (z, u)) hP)
    · have hP := (if_neg c1).symm.trans hP
      refine lv_iload_n hx hb dX5_has_4 rfl (lv_at hl 1 rfl) ?_
      refine lv_aload_n hx hb dX5_has_5 rfl (lv_at hl 0 rfl) ?_
      refine va_get (D := D) (ci := 5) (v := .int (s4_i u 1)) (C := RX5) (T := TX5) (N := 9) hx hb htG in_5 hown hK hw.1 3 (xo_3 a k3 u) rfl 8 (by decide) f_37 (fun _ h9 => h9) rfl dX5_has_6 ?_
      refine lv_icmp_ge (tgt := 16) hx hb dX5_has_9 (by decide) (fun c2 => ?_) (fun c2 => ?_)
      · have hP := (if_pos c2).symm.trans hP
        refine lv_iconst (v := 0) hx hb dX5_has_16 (by decide) ?_
        exact ret_z hx hb hr hlocks hw rfl dX5_has_17 (congrArg (fun z => (z, u)) hP)
      · have hP := (if_neg c2).symm.trans hP
        refine lv_iconst (v := 1) hx hb dX5_has_12 (by decide) ?_
        refine lv_goto (tgt := 17) hx hb dX5_has_13 (by decide) ?_
        exact ret_z hx hb hr hlocks hw rfl dX5_has_17 (congrArg (fun z => (z, u)) hP)
  exact hgo _ rfl s.heap [] hw
theorem dX6_slotOf_0 : decode cX6_slotOf 0 = .ok (.iload_n 0, 1) := by decide +kernel
theorem dX6_slotOf_1 : decode cX6_slotOf 1 = .ok (.bipush 12, 2) := by decide +kernel
theorem dX6_slotOf_3 : decode cX6_slotOf 3 = .ok (.imul, 1) := by decide +kernel
theorem dX6_slotOf_4 : decode cX6_slotOf 4 = .ok (.iload_n 1, 1) := by decide +kernel
theorem dX6_slotOf_5 : decode cX6_slotOf 5 = .ok (.iadd, 1) := by decide +kernel
theorem dX6_slotOf_6 : decode cX6_slotOf 6 = .ok (.ireturn, 1) := by decide +kernel
abbrev rm_xTurns_slotOf : Room := { frames := 0, cells := 0, slots := 0, locals := 0 }
def xp_Turns_slotOf (u : S4) (x0 : Int32) (x1 : Int32) : Int32 :=
  ((x0 * (12 : Int32)) + x1)
set_option maxHeartbeats 4000000 in
set_option maxRecDepth 100000 in
theorem xc_Turns_slotOf (l : Launch) (D : va_G) (a : Nat → Nat) (k3 : K3) (u : S4) (x0 : Int32) (x1 : Int32) : MI l D vwCl (ty3 k3) nestW (xC a k3) yX6_slotOf (kX6_slotOf :: tbG) rm_xTurns_slotOf [.int x0, .int x1] u (xp_Turns_slotOf u x0 x1, u) := by
  refine mkI (cc := cX6_slotOf) (maxL := 2) (ret := (some .int)) (by decide) rfl (Nat.le_of_ble_eq_true rfl) ?_
  intro p e s m below meth c A ls F hw hl
  generalize hav : ([.int x0, .int x1] : List Value).toArray = av at F ⊢
  have hl : lv_has ls 2 [(0, .int x0), (1, .int x1)] := hl
  obtain ⟨hx, hb, hr, hml, hown, hts, hK, hN, hlocks, hA⟩ := id F
  have hown : s.vm.findClass RX6 = some m.cls := hown
  have htG : ∀ w ∈ tbG, w.before av s = true := fun w h => hts w (List.mem_cons_of_mem _ h)
  have hgo : ∀ P, xp_Turns_slotOf u x0 x1 = P → ∀ (H : Heap) (locs : List Loc), wd D vwCl (xC a k3) A s.heap u H locs → W p l e rm_xTurns_slotOf s m av below meth c H locs 0 0 (QI below D vwCl (xC a k3) A av s (P, u)) (F0 m 0 ls []) := by
    intro P hP H locs hw
    refine lv_iload_n hx hb dX6_slotOf_0 rfl (lv_at hl 0 rfl) ?_
    refine lv_bipush (v := 12) hx hb dX6_slotOf_1 (by decide) ?_
    refine lv_imul hx hb dX6_slotOf_3 ?_
    refine lv_iload_n hx hb dX6_slotOf_4 rfl (lv_at hl 1 rfl) ?_
    refine lv_iadd hx hb dX6_slotOf_5 ?_
    exact ret_i hx hb hr hlocks hw dX6_slotOf_6 (congrArg (fun z => (z, u)) hP)
  exact hgo _ rfl s.heap [] hw
theorem dX6_set_0 : decode cX6_set 0 = .ok (.aload_n 0, 1) := by decide +kernel
theorem dX6_set_1 : decode cX6_set 1 = .ok (.getfield 9, 3) := by decide +kernel
theorem dX6_set_4 : decode cX6_set 4 = .ok (.iload_n 1, 1) := by decide +kernel
theorem dX6_set_5 : decode cX6_set 5 = .ok (.iload_n 2, 1) := by decide +kernel
theorem dX6_set_6 : decode cX6_set 6 = .ok (.invokestatic 19, 3) := by decide +kernel
theorem dX6_set_9 : decode cX6_set 9 = .ok (.iload_n 3, 1) := by decide +kernel
theorem dX6_set_10 : decode cX6_set 10 = .ok (.iastore, 1) := by decide +kernel
theorem dX6_set_11 : decode cX6_set 11 = .ok (.aload_n 0, 1) := by decide +kernel
theorem dX6_set_12 : decode cX6_set 12 = .ok (.getfield 15, 3) := by decide +kernel
theorem dX6_set_15 : decode cX6_set 15 = .ok (.iload_n 1, 1) := by decide +kernel
theorem dX6_set_16 : decode cX6_set 16 = .ok (.iload_n 2, 1) := by decide +kernel
theorem dX6_set_17 : decode cX6_set 17 = .ok (.invokestatic 19, 3) := by decide +kernel
theorem dX6_set_20 : decode cX6_set 20 = .ok (.iload 4, 2) := by decide +kernel
theorem dX6_set_22 : decode cX6_set 22 = .ok (.ifCond .ne 7, 3) := by decide +kernel
theorem dX6_set_25 : decode cX6_set 25 = .ok (.iconst 1, 1) := by decide +kernel
theorem dX6_set_26 : decode cX6_set 26 = .ok (.goto 4, 3) := by decide +kernel
theorem dX6_set_29 : decode cX6_set 29 = .ok (.iconst 0, 1) := by decide +kernel
theorem dX6_set_30 : decode cX6_set 30 = .ok (.bastore, 1) := by decide +kernel
theorem dX6_set_31 : decode cX6_set 31 = .ok (.return_, 1) := by decide +kernel
abbrev rm_xTurns_set : Room := { frames := 1, cells := 0, slots := 0, locals := 21 }
def xp_Turns_set (u : S4) (x1 : Int32) (x2 : Int32) (x3 : Int32) (x4 : Int32) : S4 :=
  let r1 : Int32 := xp_Turns_slotOf u x1 x2
  let u3 : S4 := s4_wa u 8 r1 x3
  let r4 : Int32 := xp_Turns_slotOf u3 x1 x2
  if x4 = (0 : Int32) then
    let u9 : S4 := s4_wz u3 9 r4 (1 : Int32)
    u9
  else
    let u7 : S4 := s4_wz u3 9 r4 (0 : Int32)
    u7
def xq_Turns_set (u : S4) (x1 : Int32) (x2 : Int32) (x3 : Int32) (x4 : Int32) : Prop :=
  let r1 : Int32 := xp_Turns_slotOf u x1 x2
  vp_in r1 144 ∧
  let u3 : S4 := s4_wa u 8 r1 x3
  let r4 : Int32 := xp_Turns_slotOf u3 x1 x2
  ((x4 = (0 : Int32) →
    vp_in r4 144) ∧ (¬ x4 = (0 : Int32) →
    vp_in r4 144))
set_option maxHeartbeats 4000000 in
set_option maxRecDepth 100000 in
theorem xc_Turns_set (l : Launch) (D : va_G) (a : Nat → Nat) (k3 : K3) (u : S4) (x1 : Int32) (x2 : Int32) (x3 : Int32) (x4 : Int32) (hq : xq_Turns_set u x1 x2 x3 x4) : MV l D vwCl (ty3 k3) nestW (xC a k3) yX6_set (kX6_set :: tbG) rm_xTurns_set [.ref (a 4), .int x1, .int x2, .int x3, .int x4] u (xp_Turns_set u x1 x2 x3 x4) := by
  refine mkV (cc := cX6_set) (maxL := 5) (ret := none) (by decide) rfl (Nat.le_of_ble_eq_true rfl) ?_
  intro p e s m below meth c A ls F hw hl
  generalize hav : ([.ref (a 4), .int x1, .int x2, .int x3, .int x4] : List Value).toArray = av at F ⊢
  have hl : lv_has ls 5 [(0, .ref (a 4)), (1, .int x1), (2, .int x2), (3, .int x3), (4, .int x4)] := hl
  obtain ⟨hx, hb, hr, hml, hown, hts, hK, hN, hlocks, hA⟩ := id F
  have hown : s.vm.findClass RX6 = some m.cls := hown
  have htG : ∀ w ∈ tbG, w.before av s = true := fun w h => hts w (List.mem_cons_of_mem _ h)
  have f_9 := htG _ tb_106
  have f_15 := htG _ tb_107
  have hgo : ∀ P, xp_Turns_set u x1 x2 x3 x4 = P → ∀ (H : Heap) (locs : List Loc), wd D vwCl (xC a k3) A s.heap u H locs → W p l e rm_xTurns_set s m av below meth c H locs 0 0 (QV below D vwCl (xC a k3) A av s P) (F0 m 0 ls []) := by
    intro P hP H locs hw
    refine lv_aload_n hx hb dX6_set_0 rfl (lv_at hl 0 rfl) ?_
    refine va_get (D := D) (ci := 6) (v := .ref (a 21)) (C := RX6) (T := TX6) (N := 2) hx hb htG in_6 hown hK hw.1 4 (xo_4 a k3 u) rfl 0 (by decide) f_9 (fun _ h9 => h9) rfl dX6_set_1 ?_
    refine lv_iload_n hx hb dX6_set_4 rfl (lv_at hl 1 rfl) ?_
    refine lv_iload_n hx hb dX6_set_5 rfl (lv_at hl 2 rfl) ?_
    let r1 : Int32 := xp_Turns_slotOf u x1 x2
    refine call_sir (rest := [.ref (a 21)]) ⟨hx, hb, hml, hown, htG⟩ nestW_ok hK hN hA (xc_Turns_slotOf l D a k3 u x1 x2) (cwS 2 htG (tb_S tb_248 tb_249 tb_24 tb_250) rfl rfl rfl (by decide +kernel) ⟨Nat.le_of_ble_eq_true rfl, Nat.le_of_ble_eq_true rfl⟩) hw rfl hl.1 rfl (Nat.le_of_ble_eq_true rfl) dX6_set_6 ⟨Nat.zero_le _, Nat.zero_le _⟩ (fun H locs (hw : wd D vwCl (xC a k3) A s.heap u H locs) => ?_)
    refine lv_iload_n hx hb dX6_set_9 rfl (lv_at hl 3 rfl) ?_
    obtain ⟨h2, hq⟩ := hq
    let u3 : S4 := s4_wa u 8 r1 x3
    refine y_iast (t0 := 0) hx hb hK hw 8 (xo_21 a k3 u) (xq_21 a k3 u) rfl h2 dX6_set_10 (fun H locs (hw : wd D vwCl (xC a k3) A s.heap u3 H locs) => ?_)
    refine lv_aload_n hx hb dX6_set_11 rfl (lv_at hl 0 rfl) ?_
    refine va_get (D := D) (ci := 6) (v := .ref (a 22)) (C := RX6) (T := TX6) (N := 2) hx hb htG in_6 hown hK hw.1 4 (xo_4 a k3 u3) rfl 1 (by decide) f_15 (fun _ h9 => h9) rfl dX6_set_12 ?_
    refine lv_iload_n hx hb dX6_set_15 rfl (lv_at hl 1 rfl) ?_
    refine lv_iload_n hx hb dX6_set_16 rfl (lv_at hl 2 rfl) ?_
    let r4 : Int32 := xp_Turns_slotOf u3 x1 x2
    refine call_sir (rest := [.ref (a 22)]) ⟨hx, hb, hml, hown, htG⟩ nestW_ok hK hN hA (xc_Turns_slotOf l D a k3 u3 x1 x2) (cwS 2 htG (tb_S tb_248 tb_249 tb_24 tb_250) rfl rfl rfl (by decide +kernel) ⟨Nat.le_of_ble_eq_true rfl, Nat.le_of_ble_eq_true rfl⟩) hw rfl hl.1 rfl (Nat.le_of_ble_eq_true rfl) dX6_set_17 ⟨Nat.zero_le _, Nat.zero_le _⟩ (fun H locs (hw : wd D vwCl (xC a k3) A s.heap u3 H locs) => ?_)
    refine lv_iload hx hb dX6_set_20 (lv_at hl 4 rfl) ?_
    refine lv_if_ne (tgt := 29) hx hb dX6_set_22 (by decide) (fun c5 => ?_) (fun c5 => ?_)
    · have hP := (if_neg c5).symm.trans hP
      have hq := hq.2 c5
      refine lv_iconst (v := 0) hx hb dX6_set_29 (by decide) ?_
      have h6 := hq
      let u7 : S4 := s4_wz u3 9 r4 (0 : Int32)
      refine y_zast (t0 := 2) hx hb hK hw 9 (xo_22 a k3 u3) (xq_22 a k3 u3) rfl h6 dX6_set_30 (fun H locs (hw : wd D vwCl (xC a k3) A s.heap u7 H locs) => ?_)
      exact ret_v hx hb hr hlocks hw dX6_set_31 hP
    · have hP := (if_pos c5).symm.trans hP
      have hq := hq.1 c5
      refine lv_iconst (v := 1) hx hb dX6_set_25 (by decide) ?_
      refine lv_goto (tgt := 30) hx hb dX6_set_26 (by decide) ?_
      have h8 := hq
      let u9 : S4 := s4_wz u3 9 r4 (1 : Int32)
      refine y_zast (t0 := 2) hx hb hK hw 9 (xo_22 a k3 u3) (xq_22 a k3 u3) rfl h8 dX6_set_30 (fun H locs (hw : wd D vwCl (xC a k3) A s.heap u9 H locs) => ?_)
      exact ret_v hx hb hr hlocks hw dX6_set_31 hP
  exact hgo _ rfl s.heap [] hw
theorem dX7_turn_0 : decode cX7_turn 0 = .ok (.aload_n 0, 1) := by decide +kernel
theorem dX7_turn_1 : decode cX7_turn 1 = .ok (.getfield 12, 3) := by decide +kernel
theorem dX7_turn_4 : decode cX7_turn 4 = .ok (.getfield 55, 3) := by decide +kernel
theorem dX7_turn_7 : decode cX7_turn 7 = .ok (.iload_n 1, 1) := by decide +kernel
theorem dX7_turn_8 : decode cX7_turn 8 = .ok (.invokevirtual 64, 3) := by decide +kernel
theorem dX7_turn_11 : decode cX7_turn 11 = .ok (.ifCond .eq 22, 3) := by decide +kernel
theorem dX7_turn_14 : decode cX7_turn 14 = .ok (.aload_n 0, 1) := by decide +kernel
theorem dX7_turn_15 : decode cX7_turn 15 = .ok (.getfield 12, 3) := by decide +kernel
theorem dX7_turn_18 : decode cX7_turn 18 = .ok (.getfield 55, 3) := by decide +kernel
theorem dX7_turn_21 : decode cX7_turn 21 = .ok (.iload_n 2, 1) := by decide +kernel
theorem dX7_turn_22 : decode cX7_turn 22 = .ok (.invokevirtual 64, 3) := by decide +kernel
theorem dX7_turn_25 : decode cX7_turn 25 = .ok (.ifCond .eq 8, 3) := by decide +kernel
theorem dX7_turn_28 : decode cX7_turn 28 = .ok (.iload_n 1, 1) := by decide +kernel
theorem dX7_turn_29 : decode cX7_turn 29 = .ok (.iload_n 2, 1) := by decide +kernel
theorem dX7_turn_30 : decode cX7_turn 30 = .ok (.if_icmp .ne 5, 3) := by decide +kernel
theorem dX7_turn_33 : decode cX7_turn 33 = .ok (.iconst 0, 1) := by decide +kernel
theorem dX7_turn_34 : decode cX7_turn 34 = .ok (.ireturn, 1) := by decide +kernel
theorem dX7_turn_35 : decode cX7_turn 35 = .ok (.iload_n 3, 1) := by decide +kernel
theorem dX7_turn_36 : decode cX7_turn 36 = .ok (.ifCond .lt 10, 3) := by decide +kernel
theorem dX7_turn_39 : decode cX7_turn 39 = .ok (.iload_n 3, 1) := by decide +kernel
theorem dX7_turn_40 : decode cX7_turn 40 = .ok (.sipush 1000, 3) := by decide +kernel
theorem dX7_turn_43 : decode cX7_turn 43 = .ok (.if_icmp .le 5, 3) := by decide +kernel
theorem dX7_turn_46 : decode cX7_turn 46 = .ok (.iconst 0, 1) := by decide +kernel
theorem dX7_turn_47 : decode cX7_turn 47 = .ok (.ireturn, 1) := by decide +kernel
theorem dX7_turn_48 : decode cX7_turn 48 = .ok (.aload_n 0, 1) := by decide +kernel
theorem dX7_turn_49 : decode cX7_turn 49 = .ok (.getfield 12, 3) := by decide +kernel
theorem dX7_turn_52 : decode cX7_turn 52 = .ok (.getfield 65, 3) := by decide +kernel
theorem dX7_turn_55 : decode cX7_turn 55 = .ok (.iload_n 1, 1) := by decide +kernel
theorem dX7_turn_56 : decode cX7_turn 56 = .ok (.iload_n 2, 1) := by decide +kernel
theorem dX7_turn_57 : decode cX7_turn 57 = .ok (.iload_n 3, 1) := by decide +kernel
theorem dX7_turn_58 : decode cX7_turn 58 = .ok (.iload 4, 2) := by decide +kernel
theorem dX7_turn_60 : decode cX7_turn 60 = .ok (.invokevirtual 69, 3) := by decide +kernel
theorem dX7_turn_63 : decode cX7_turn 63 = .ok (.iconst 1, 1) := by decide +kernel
theorem dX7_turn_64 : decode cX7_turn 64 = .ok (.ireturn, 1) := by decide +kernel
abbrev rm_xO_turn : Room := { frames := 2, cells := 0, slots := 0, locals := 45 }
def xp_O_turn (u : S4) (x1 : Int32) (x2 : Int32) (x3 : Int32) (x4 : Int32) : Int32 × S4 :=
  let r1 : Int32 := xp_Streets_has u x1
  if r1 = (0 : Int32) then
    ((0 : Int32), u)
  else
    let r3 : Int32 := xp_Streets_has u x2
    if r3 = (0 : Int32) then
      ((0 : Int32), u)
    else
      if x1 = x2 then
        ((0 : Int32), u)
      else
        if x3 < (0 : Int32) then
          ((0 : Int32), u)
        else
          if x3 ≤ (1000 : Int32) then
            let u9 : S4 := xp_Turns_set u x1 x2 x3 x4
            ((1 : Int32), u9)
          else
            ((0 : Int32), u)
def xq_O_turn (u : S4) (x1 : Int32) (x2 : Int32) (x3 : Int32) (x4 : Int32) : Prop :=
  let r1 : Int32 := xp_Streets_has u x1
  (¬ r1 = (0 : Int32) →
    let r3 : Int32 := xp_Streets_has u x2
    (¬ r3 = (0 : Int32) →
      (¬ x1 = x2 →
        (¬ x3 < (0 : Int32) →
          (x3 ≤ (1000 : Int32) →
            xq_Turns_set u x1 x2 x3 x4)))))
set_option maxHeartbeats 4000000 in
set_option maxRecDepth 100000 in
theorem xc_O_turn (l : Launch) (D : va_G) (a : Nat → Nat) (k3 : K3) (u : S4) (x1 : Int32) (x2 : Int32) (x3 : Int32) (x4 : Int32) (hq : xq_O_turn u x1 x2 x3 x4) : MI l D vwCl (ty3 k3) nestW (xC a k3) yX7_turn (kX7_turn :: tbG) rm_xO_turn [.ref (a 0), .int x1, .int x2, .int x3, .int x4] u (xp_O_turn u x1 x2 x3 x4) := by
  refine mkI (cc := cX7_turn) (maxL := 5) (ret := (some .boolean)) (by decide) rfl (Nat.le_of_ble_eq_true rfl) ?_
  intro p e s m below meth c A ls F hw hl
  generalize hav : ([.ref (a 0), .int x1, .int x2, .int x3, .int x4] : List Value).toArray = av at F ⊢
  have hl : lv_has ls 5 [(0, .ref (a 0)), (1, .int x1), (2, .int x2), (3, .int x3), (4, .int x4)] := hl
  obtain ⟨hx, hb, hr, hml, hown, hts, hK, hN, hlocks, hA⟩ := id F
  have hown : s.vm.findClass RX7 = some m.cls := hown
  have htG : ∀ w ∈ tbG, w.before av s = true := fun w h => hts w (List.mem_cons_of_mem _ h)
  have f_12 := htG _ tb_188
  have f_55 := va_Nw.use (A := av) rfl (hN _ nw_6)
  have f_65 := va_Nw.use (A := av) rfl (hN _ nw_7)
  have hgo : ∀ P, xp_O_turn u x1 x2 x3 x4 = P → ∀ (H : Heap) (locs : List Loc), wd D vwCl (xC a k3) A s.heap u H locs → W p l e rm_xO_turn s m av below meth c H locs 0 0 (QI below D vwCl (xC a k3) A av s P) (F0 m 0 ls []) := by
    intro P hP H locs hw
    refine lv_aload_n hx hb dX7_turn_0 rfl (lv_at hl 0 rfl) ?_
    refine va_get (D := D) (ci := 7) (v := .ref (a 1)) (C := RX7) (T := TX7) (N := 4) hx hb htG in_7 hown hK hw.1 0 (xo_0 a k3 u) rfl 0 (by decide) f_12 (fun _ h9 => h9) rfl dX7_turn_1 ?_
    refine va_getN (D := D) (ci := 2) (v := .ref (a 3)) (C := RX2) (T := TX2) (N := 5) hx hb htG in_2 hown hK hw.1 1 (xo_1 a k3 u) rfl 1 (by decide) f_55 (fun _ h9 => h9) rfl dX7_turn_4 ?_
    refine lv_iload_n hx hb dX7_turn_7 rfl (lv_at hl 1 rfl) ?_
    let r1 : Int32 := xp_Streets_has u x1
    refine call_vir (rest := []) ⟨hx, hb, hml, hown, htG⟩ nestW_ok hK hN hA (xc_Streets_has l D a k3 u x1) (cwV 1 htG (tb_V tb_240 tb_241 tb_242 tb_23 tb_243) rfl rfl rfl (by decide +kernel) ⟨Nat.le_of_ble_eq_true rfl, Nat.le_of_ble_eq_true rfl⟩) (ci := 5) rfl (xo_3 a k3 u) rfl hw rfl hl.1 rfl (Nat.le_of_ble_eq_true rfl) dX7_turn_8 ⟨Nat.zero_le _, Nat.zero_le _⟩ (fun H locs (hw : wd D vwCl (xC a k3) A s.heap u H locs) => ?_)
    refine lv_if_eq (tgt := 33) hx hb dX7_turn_11 (by decide) (fun c2 => ?_) (fun c2 => ?_)
    · have hP := (if_pos c2).symm.trans hP
      refine lv_iconst (v := 0) hx hb dX7_turn_33 (by decide) ?_
      exact ret_z hx hb hr hlocks hw rfl dX7_turn_34 hP
    · have hP := (if_neg c2).symm.trans hP
      have hq := hq c2
      refine lv_aload_n hx hb dX7_turn_14 rfl (lv_at hl 0 rfl) ?_
      refine va_get (D := D) (ci := 7) (v := .ref (a 1)) (C := RX7) (T := TX7) (N := 4) hx hb htG in_7 hown hK hw.1 0 (xo_0 a k3 u) rfl 0 (by decide) f_12 (fun _ h9 => h9) rfl dX7_turn_15 ?_
      refine va_getN (D := D) (ci := 2) (v := .ref (a 3)) (C := RX2) (T := TX2) (N := 5) hx hb htG in_2 hown hK hw.1 1 (xo_1 a k3 u) rfl 1 (by decide) f_55 (fun _ h9 => h9) rfl dX7_turn_18 ?_
      refine lv_iload_n hx hb dX7_turn_21 rfl (lv_at hl 2 rfl) ?_
      let r3 : Int32 := xp_Streets_has u x2
      refine call_vir (rest := []) ⟨hx, hb, hml, hown, htG⟩ nestW_ok hK hN hA (xc_Streets_has l D a k3 u x2) (cwV 1 htG (tb_V tb_240 tb_241 tb_242 tb_23 tb_243) rfl rfl rfl (by decide +kernel) ⟨Nat.le_of_ble_eq_true rfl, Nat.le_of_ble_eq_true rfl⟩) (ci := 5) rfl (xo_3 a k3 u) rfl hw rfl hl.1 rfl (Nat.le_of_ble_eq_true rfl) dX7_turn_22 ⟨Nat.zero_le _, Nat.zero_le _⟩ (fun H locs (hw : wd D vwCl (xC a k3) A s.heap u H locs) => ?_)
      refine lv_if_eq (tgt := 33) hx hb dX7_turn_25 (by decide) (fun c4 => ?_) (fun c4 => ?_)
      · have hP := (if_pos c4).symm.trans hP
        refine lv_iconst (v := 0) hx hb dX7_turn_33 (by decide) ?_
        exact ret_z hx hb hr hlocks hw rfl dX7_turn_34 hP
      · have hP := (if_neg c4).symm.trans hP
        have hq := hq c4
        refine lv_iload_n hx hb dX7_turn_28 rfl (lv_at hl 1 rfl) ?_
        refine lv_iload_n hx hb dX7_turn_29 rfl (lv_at hl 2 rfl) ?_
        refine lv_icmp_ne (tgt := 35) hx hb dX7_turn_30 (by decide) (fun c5 => ?_) (fun c5 => ?_)
        · have hP := (if_neg c5).symm.trans hP
          have hq := hq c5
          refine lv_iload_n hx hb dX7_turn_35 rfl (lv_at hl 3 rfl) ?_
          refine lv_if_lt (tgt := 46) hx hb dX7_turn_36 (by decide) (fun c6 => ?_) (fun c6 => ?_)
          · have hP := (if_pos c6).symm.trans hP
            refine lv_iconst (v := 0) hx hb dX7_turn_46 (by decide) ?_
            exact ret_z hx hb hr hlocks hw rfl dX7_turn_47 hP
          · have hP := (if_neg c6).symm.trans hP
            have hq := hq c6
            refine lv_iload_n hx hb dX7_turn_39 rfl (lv_at hl 3 rfl) ?_
            refine lv_sipush (v := 1000) hx hb dX7_turn_40 (by decide) ?_
            refine lv_icmp_le (tgt := 48) hx hb dX7_turn_43 (by decide) (fun c7 => ?_) (fun c7 => ?_)
            · have hP := (if_pos c7).symm.trans hP
              have hq := hq c7
              refine lv_aload_n hx hb dX7_turn_48 rfl (lv_at hl 0 rfl) ?_
              refine va_get (D := D) (ci := 7) (v := .ref (a 1)) (C := RX7) (T := TX7) (N := 4) hx hb htG in_7 hown hK hw.1 0 (xo_0 a k3 u) rfl 0 (by decide) f_12 (fun _ h9 => h9) rfl dX7_turn_49 ?_
              refine va_getN (D := D) (ci := 2) (v := .ref (a 4)) (C := RX2) (T := TX2) (N := 5) hx hb htG in_2 hown hK hw.1 1 (xo_1 a k3 u) rfl 2 (by decide) f_65 (fun _ h9 => h9) rfl dX7_turn_52 ?_
              refine lv_iload_n hx hb dX7_turn_55 rfl (lv_at hl 1 rfl) ?_
              refine lv_iload_n hx hb dX7_turn_56 rfl (lv_at hl 2 rfl) ?_
              refine lv_iload_n hx hb dX7_turn_57 rfl (lv_at hl 3 rfl) ?_
              refine lv_iload hx hb dX7_turn_58 (lv_at hl 4 rfl) ?_
              have h8 := hq
              let u9 : S4 := xp_Turns_set u x1 x2 x3 x4
              refine call_vv (rest := []) ⟨hx, hb, hml, hown, htG⟩ nestW_ok hK hN hA (xc_Turns_set l D a k3 u x1 x2 x3 x4 h8) (cwV 4 htG (tb_V tb_244 tb_245 tb_246 tb_24 tb_247) rfl rfl rfl (by decide +kernel) ⟨Nat.le_of_ble_eq_true rfl, Nat.le_of_ble_eq_true rfl⟩) (ci := 6) rfl (xo_4 a k3 u) rfl hw rfl hl.1 rfl (Nat.le_of_ble_eq_true rfl) dX7_turn_60 ⟨Nat.zero_le _, Nat.zero_le _⟩ (fun H locs (hw : wd D vwCl (xC a k3) A s.heap u9 H locs) => ?_)
              refine lv_iconst (v := 1) hx hb dX7_turn_63 (by decide) ?_
              exact ret_z hx hb hr hlocks hw rfl dX7_turn_64 hP
            · have hP := (if_neg c7).symm.trans hP
              refine lv_iconst (v := 0) hx hb dX7_turn_46 (by decide) ?_
              exact ret_z hx hb hr hlocks hw rfl dX7_turn_47 hP
        · have hP := (if_pos c5).symm.trans hP
          refine lv_iconst (v := 0) hx hb dX7_turn_33 (by decide) ?_
          exact ret_z hx hb hr hlocks hw rfl dX7_turn_34 hP
  exact hgo _ rfl s.heap [] hw
theorem dX7_hours_0 : decode cX7_hours 0 = .ok (.aload_n 0, 1) := by decide +kernel
theorem dX7_hours_1 : decode cX7_hours 1 = .ok (.getfield 12, 3) := by decide +kernel
theorem dX7_hours_4 : decode cX7_hours 4 = .ok (.getfield 55, 3) := by decide +kernel
theorem dX7_hours_7 : decode cX7_hours 7 = .ok (.iload_n 1, 1) := by decide +kernel
theorem dX7_hours_8 : decode cX7_hours 8 = .ok (.invokevirtual 64, 3) := by decide +kernel
theorem dX7_hours_11 : decode cX7_hours 11 = .ok (.ifCond .ne 5, 3) := by decide +kernel
theorem dX7_hours_14 : decode cX7_hours 14 = .ok (.iconst 0, 1) := by decide +kernel
theorem dX7_hours_15 : decode cX7_hours 15 = .ok (.ireturn, 1) := by decide +kernel
theorem dX7_hours_16 : decode cX7_hours 16 = .ok (.iload_n 2, 1) := by decide +kernel
theorem dX7_hours_17 : decode cX7_hours 17 = .ok (.ifCond .lt 14, 3) := by decide +kernel
theorem dX7_hours_20 : decode cX7_hours 20 = .ok (.iload_n 2, 1) := by decide +kernel
theorem dX7_hours_21 : decode cX7_hours 21 = .ok (.iload_n 3, 1) := by decide +kernel
theorem dX7_hours_22 : decode cX7_hours 22 = .ok (.if_icmp .gt 9, 3) := by decide +kernel
theorem dX7_hours_25 : decode cX7_hours 25 = .ok (.iload_n 3, 1) := by decide +kernel
theorem dX7_hours_26 : decode cX7_hours 26 = .ok (.ldc 75, 2) := by decide +kernel
theorem dX7_hours_28 : decode cX7_hours 28 = .ok (.if_icmp .lt 5, 3) := by decide +kernel
theorem dX7_hours_31 : decode cX7_hours 31 = .ok (.iconst 0, 1) := by decide +kernel
theorem dX7_hours_32 : decode cX7_hours 32 = .ok (.ireturn, 1) := by decide +kernel
theorem dX7_hours_33 : decode cX7_hours 33 = .ok (.aload_n 0, 1) := by decide +kernel
theorem dX7_hours_34 : decode cX7_hours 34 = .ok (.getfield 12, 3) := by decide +kernel
theorem dX7_hours_37 : decode cX7_hours 37 = .ok (.getfield 55, 3) := by decide +kernel
theorem dX7_hours_40 : decode cX7_hours 40 = .ok (.iload_n 1, 1) := by decide +kernel
theorem dX7_hours_41 : decode cX7_hours 41 = .ok (.iload_n 2, 1) := by decide +kernel
theorem dX7_hours_42 : decode cX7_hours 42 = .ok (.iload_n 3, 1) := by decide +kernel
theorem dX7_hours_43 : decode cX7_hours 43 = .ok (.invokevirtual 76, 3) := by decide +kernel
theorem dX7_hours_46 : decode cX7_hours 46 = .ok (.iconst 1, 1) := by decide +kernel
theorem dX7_hours_47 : decode cX7_hours 47 = .ok (.ireturn, 1) := by decide +kernel
abbrev rm_xO_hours : Room := { frames := 1, cells := 0, slots := 0, locals := 23 }
def xp_O_hours (u : S4) (x1 : Int32) (x2 : Int32) (x3 : Int32) : Int32 × S4 :=
  let r1 : Int32 := xp_Streets_has u x1
  if r1 = (0 : Int32) then
    ((0 : Int32), u)
  else
    if x2 < (0 : Int32) then
      ((0 : Int32), u)
    else
      if x3 < x2 then
        ((0 : Int32), u)
      else
        if x3 < (86400 : Int32) then
          let u7 : S4 := xp_Streets_setHours u x1 x2 x3
          ((1 : Int32), u7)
        else
          ((0 : Int32), u)
def xq_O_hours (u : S4) (x1 : Int32) (x2 : Int32) (x3 : Int32) : Prop :=
  let r1 : Int32 := xp_Streets_has u x1
  (¬ r1 = (0 : Int32) →
    (¬ x2 < (0 : Int32) →
      (¬ x3 < x2 →
        (x3 < (86400 : Int32) →
          xq_Streets_setHours u x1 x2 x3))))
set_option maxHeartbeats 4000000 in
set_option maxRecDepth 100000 in
theorem xc_O_hours (l : Launch) (D : va_G) (a : Nat → Nat) (k3 : K3) (u : S4) (x1 : Int32) (x2 : Int32) (x3 : Int32) (hq : xq_O_hours u x1 x2 x3) : MI l D vwCl (ty3 k3) nestW (xC a k3) yX7_hours (kX7_hours :: tbG) rm_xO_hours [.ref (a 0), .int x1, .int x2, .int x3] u (xp_O_hours u x1 x2 x3) := by
  refine mkI (cc := cX7_hours) (maxL := 4) (ret := (some .boolean)) (by decide) rfl (Nat.le_of_ble_eq_true rfl) ?_
  intro p e s m below meth c A ls F hw hl
  generalize hav : ([.ref (a 0), .int x1, .int x2, .int x3] : List Value).toArray = av at F ⊢
  have hl : lv_has ls 4 [(0, .ref (a 0)), (1, .int x1), (2, .int x2), (3, .int x3)] := hl
  obtain ⟨hx, hb, hr, hml, hown, hts, hK, hN, hlocks, hA⟩ := id F
  have hown : s.vm.findClass RX7 = some m.cls := hown
  have htG : ∀ w ∈ tbG, w.before av s = true := fun w h => hts w (List.mem_cons_of_mem _ h)
  have f_12 := htG _ tb_188
  have f_55 := va_Nw.use (A := av) rfl (hN _ nw_6)
  have k_75 := htG _ tb_255
  have hgo : ∀ P, xp_O_hours u x1 x2 x3 = P → ∀ (H : Heap) (locs : List Loc), wd D vwCl (xC a k3) A s.heap u H locs → W p l e rm_xO_hours s m av below meth c H locs 0 0 (QI below D vwCl (xC a k3) A av s P) (F0 m 0 ls []) := by
    intro P hP H locs hw
    refine lv_aload_n hx hb dX7_hours_0 rfl (lv_at hl 0 rfl) ?_
    refine va_get (D := D) (ci := 7) (v := .ref (a 1)) (C := RX7) (T := TX7) (N := 4) hx hb htG in_7 hown hK hw.1 0 (xo_0 a k3 u) rfl 0 (by decide) f_12 (fun _ h9 => h9) rfl dX7_hours_1 ?_
    refine va_getN (D := D) (ci := 2) (v := .ref (a 3)) (C := RX2) (T := TX2) (N := 5) hx hb htG in_2 hown hK hw.1 1 (xo_1 a k3 u) rfl 1 (by decide) f_55 (fun _ h9 => h9) rfl dX7_hours_4 ?_
    refine lv_iload_n hx hb dX7_hours_7 rfl (lv_at hl 1 rfl) ?_
    let r1 : Int32 := xp_Streets_has u x1
    refine call_vir (rest := []) ⟨hx, hb, hml, hown, htG⟩ nestW_ok hK hN hA (xc_Streets_has l D a k3 u x1) (cwV 1 htG (tb_V tb_240 tb_241 tb_242 tb_23 tb_243) rfl rfl rfl (by decide +kernel) ⟨Nat.le_of_ble_eq_true rfl, Nat.le_of_ble_eq_true rfl⟩) (ci := 5) rfl (xo_3 a k3 u) rfl hw rfl hl.1 rfl (Nat.le_of_ble_eq_true rfl) dX7_hours_8 ⟨Nat.zero_le _, Nat.zero_le _⟩ (fun H locs (hw : wd D vwCl (xC a k3) A s.heap u H locs) => ?_)
    refine lv_if_ne (tgt := 16) hx hb dX7_hours_11 (by decide) (fun c2 => ?_) (fun c2 => ?_)
    · have hP := (if_neg c2).symm.trans hP
      have hq := hq c2
      refine lv_iload_n hx hb dX7_hours_16 rfl (lv_at hl 2 rfl) ?_
      refine lv_if_lt (tgt := 31) hx hb dX7_hours_17 (by decide) (fun c3 => ?_) (fun c3 => ?_)
      · have hP := (if_pos c3).symm.trans hP
        refine lv_iconst (v := 0) hx hb dX7_hours_31 (by decide) ?_
        exact ret_z hx hb hr hlocks hw rfl dX7_hours_32 hP
      · have hP := (if_neg c3).symm.trans hP
        have hq := hq c3
        refine lv_iload_n hx hb dX7_hours_20 rfl (lv_at hl 2 rfl) ?_
        refine lv_iload_n hx hb dX7_hours_21 rfl (lv_at hl 3 rfl) ?_
        refine lv_icmp_gt (tgt := 31) hx hb dX7_hours_22 (by decide) (fun c4 => ?_) (fun c4 => ?_)
        · have hP := (if_pos c4).symm.trans hP
          refine lv_iconst (v := 0) hx hb dX7_hours_31 (by decide) ?_
          exact ret_z hx hb hr hlocks hw rfl dX7_hours_32 hP
        · have hP := (if_neg c4).symm.trans hP
          have hq := hq c4
          refine lv_iload_n hx hb dX7_hours_25 rfl (lv_at hl 3 rfl) ?_
          refine lv_ldc (v := 86400) hx hb hown k_75 dX7_hours_26 ?_
          refine lv_icmp_lt (tgt := 33) hx hb dX7_hours_28 (by decide) (fun c5 => ?_) (fun c5 => ?_)
          · have hP := (if_pos c5).symm.trans hP
            have hq := hq c5
            refine lv_aload_n hx hb dX7_hours_33 rfl (lv_at hl 0 rfl) ?_
            refine va_get (D := D) (ci := 7) (v := .ref (a 1)) (C := RX7) (T := TX7) (N := 4) hx hb htG in_7 hown hK hw.1 0 (xo_0 a k3 u) rfl 0 (by decide) f_12 (fun _ h9 => h9) rfl dX7_hours_34 ?_
            refine va_getN (D := D) (ci := 2) (v := .ref (a 3)) (C := RX2) (T := TX2) (N := 5) hx hb htG in_2 hown hK hw.1 1 (xo_1 a k3 u) rfl 1 (by decide) f_55 (fun _ h9 => h9) rfl dX7_hours_37 ?_
            refine lv_iload_n hx hb dX7_hours_40 rfl (lv_at hl 1 rfl) ?_
            refine lv_iload_n hx hb dX7_hours_41 rfl (lv_at hl 2 rfl) ?_
            refine lv_iload_n hx hb dX7_hours_42 rfl (lv_at hl 3 rfl) ?_
            have h6 := hq
            let u7 : S4 := xp_Streets_setHours u x1 x2 x3
            refine call_vv (rest := []) ⟨hx, hb, hml, hown, htG⟩ nestW_ok hK hN hA (xc_Streets_setHours l D a k3 u x1 x2 x3 h6) (cwV 3 htG (tb_V tb_256 tb_228 tb_229 tb_23 tb_230) rfl rfl rfl (by decide +kernel) ⟨Nat.le_of_ble_eq_true rfl, Nat.le_of_ble_eq_true rfl⟩) (ci := 5) rfl (xo_3 a k3 u) rfl hw rfl hl.1 rfl (Nat.le_of_ble_eq_true rfl) dX7_hours_43 ⟨Nat.zero_le _, Nat.zero_le _⟩ (fun H locs (hw : wd D vwCl (xC a k3) A s.heap u7 H locs) => ?_)
            refine lv_iconst (v := 1) hx hb dX7_hours_46 (by decide) ?_
            exact ret_z hx hb hr hlocks hw rfl dX7_hours_47 hP
          · have hP := (if_neg c5).symm.trans hP
            refine lv_iconst (v := 0) hx hb dX7_hours_31 (by decide) ?_
            exact ret_z hx hb hr hlocks hw rfl dX7_hours_32 hP
    · have hP := (if_pos c2).symm.trans hP
      refine lv_iconst (v := 0) hx hb dX7_hours_14 (by decide) ?_
      exact ret_z hx hb hr hlocks hw rfl dX7_hours_15 hP
  exact hgo _ rfl s.heap [] hw
