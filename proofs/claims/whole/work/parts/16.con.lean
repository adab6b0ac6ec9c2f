theorem dX3_squareBetween_0 : decode cX3_squareBetween 0 = .ok (.aload_n 0, 1) := by decide +kernel
theorem dX3_squareBetween_1 : decode cX3_squareBetween 1 = .ok (.getfield 9, 3) := by decide +kernel
theorem dX3_squareBetween_4 : decode cX3_squareBetween 4 = .ok (.iload_n 1, 1) := by decide +kernel
theorem dX3_squareBetween_5 : decode cX3_squareBetween 5 = .ok (.laload, 1) := by decide +kernel
theorem dX3_squareBetween_6 : decode cX3_squareBetween 6 = .ok (.aload_n 0, 1) := by decide +kernel
theorem dX3_squareBetween_7 : decode cX3_squareBetween 7 = .ok (.getfield 9, 3) := by decide +kernel
theorem dX3_squareBetween_10 : decode cX3_squareBetween 10 = .ok (.iload_n 2, 1) := by decide +kernel
theorem dX3_squareBetween_11 : decode cX3_squareBetween 11 = .ok (.laload, 1) := by decide +kernel
theorem dX3_squareBetween_12 : decode cX3_squareBetween 12 = .ok (.lsub, 1) := by decide +kernel
theorem dX3_squareBetween_13 : decode cX3_squareBetween 13 = .ok (.lstore_n 3, 1) := by decide +kernel
theorem dX3_squareBetween_14 : decode cX3_squareBetween 14 = .ok (.aload_n 0, 1) := by decide +kernel
theorem dX3_squareBetween_15 : decode cX3_squareBetween 15 = .ok (.getfield 15, 3) := by decide +kernel
theorem dX3_squareBetween_18 : decode cX3_squareBetween 18 = .ok (.iload_n 1, 1) := by decide +kernel
theorem dX3_squareBetween_19 : decode cX3_squareBetween 19 = .ok (.laload, 1) := by decide +kernel
theorem dX3_squareBetween_20 : decode cX3_squareBetween 20 = .ok (.aload_n 0, 1) := by decide +kernel
theorem dX3_squareBetween_21 : decode cX3_squareBetween 21 = .ok (.getfield 15, 3) := by decide +kernel
theorem dX3_squareBetween_24 : decode cX3_squareBetween 24 = .ok (.iload_n 2, 1) := by decide +kernel
theorem dX3_squareBetween_25 : decode cX3_squareBetween 25 = .ok (.laload, 1) := by decide +kernel
theorem dX3_squareBetween_26 : decode cX3_squareBetween 26 = .ok (.lsub, 1) := by decide +kernel
theorem dX3_squareBetween_27 : decode cX3_squareBetween 27 = .ok (.lstore 5, 2) := by decide +kernel
theorem dX3_squareBetween_29 : decode cX3_squareBetween 29 = .ok (.lload_n 3, 1) := by decide +kernel
theorem dX3_squareBetween_30 : decode cX3_squareBetween 30 = .ok (.lload_n 3, 1) := by decide +kernel
theorem dX3_squareBetween_31 : decode cX3_squareBetween 31 = .ok (.lmul, 1) := by decide +kernel
theorem dX3_squareBetween_32 : decode cX3_squareBetween 32 = .ok (.lload 5, 2) := by decide +kernel
theorem dX3_squareBetween_34 : decode cX3_squareBetween 34 = .ok (.lload 5, 2) := by decide +kernel
theorem dX3_squareBetween_36 : decode cX3_squareBetween 36 = .ok (.lmul, 1) := by decide +kernel
theorem dX3_squareBetween_37 : decode cX3_squareBetween 37 = .ok (.ladd, 1) := by decide +kernel
theorem dX3_squareBetween_38 : decode cX3_squareBetween 38 = .ok (.lreturn, 1) := by decide +kernel
abbrev rm_xNodes_squareBetween : Room := { frames := 0, cells := 0, slots := 0, locals := 0 }
def xp_Nodes_squareBetween (u : S4) (x1 : Int32) (x2 : Int32) : Int64 :=
  let v3 : Int64 := ((s4_rb u 1 x1) - (s4_rb u 1 x2))
  let v6 : Int64 := ((s4_rb u 2 x1) - (s4_rb u 2 x2))
  ((v3 * v3) + (v6 * v6))
def xq_Nodes_squareBetween (u : S4) (x1 : Int32) (x2 : Int32) : Prop :=
  vp_in x1 8 ∧
  vp_in x2 8 ∧
  let v3 : Int64 := ((s4_rb u 1 x1) - (s4_rb u 1 x2))
  vp_in x1 8 ∧
  vp_in x2 8
set_option maxHeartbeats 4000000 in
set_option maxRecDepth 100000 in
theorem xc_Nodes_squareBetween (l : Launch) (D : va_G) (a : Nat → Nat) (k3 : K3) (u : S4) (x1 : Int32) (x2 : Int32) (hq : xq_Nodes_squareBetween u x1 x2) : ML l D vwCl (ty3 k3) nestW (xC a k3) yX3_squareBetween (kX3_squareBetween :: tbG) rm_xNodes_squareBetween [.ref (a 2), .int x1, .int x2] u (xp_Nodes_squareBetween u x1 x2, u) := by
  refine mkL (cc := cX3_squareBetween) (maxL := 7) (ret := (some .long)) (by decide) rfl (Nat.le_of_ble_eq_true rfl) ?_
  intro p e s m below meth c A ls F hw hl
  generalize hav : ([.ref (a 2), .int x1, .int x2] : List Value).toArray = av at F ⊢
  have hl : lv_has ls 7 [(0, .ref (a 2)), (1, .int x1), (2, .int x2)] := hl
  obtain ⟨hx, hb, hr, hml, hown, hts, hK, hN, hlocks, hA⟩ := id F
  have hown : s.vm.findClass RX3 = some m.cls := hown
  have htG : ∀ w ∈ tbG, w.before av s = true := fun w h => hts w (List.mem_cons_of_mem _ h)
  have f_9 := htG _ tb_50
  have f_15 := htG _ tb_51
  have hgo : ∀ P, xp_Nodes_squareBetween u x1 x2 = P → ∀ (H : Heap) (locs : List Loc), wd D vwCl (xC a k3) A s.heap u H locs → W p l e rm_xNodes_squareBetween s m av below meth c H locs 0 0 (QL below D vwCl (xC a k3) A av s (P, u)) (F0 m 0 ls []) := by
    intro P hP H locs hw
    refine lv_aload_n hx hb dX3_squareBetween_0 rfl (lv_at hl 0 rfl) ?_
    refine va_get (D := D) (ci := 3) (v := .ref (a 10)) (C := RX3) (T := TX3) (N := 4) hx hb htG in_3 hown hK hw.1 2 (xo_2 a k3 u) rfl 0 (by decide) f_9 (fun _ h9 => h9) rfl dX3_squareBetween_1 ?_
    refine lv_iload_n hx hb dX3_squareBetween_4 rfl (lv_at hl 1 rfl) ?_
    obtain ⟨h1, hq⟩ := hq
    refine y_lald (t0 := 1) hx hb hK hw 1 (xo_10 a k3 u) rfl h1 dX3_squareBetween_5 ?_
    refine lv_aload_n hx hb dX3_squareBetween_6 rfl (lv_at hl 0 rfl) ?_
    refine va_get (D := D) (ci := 3) (v := .ref (a 10)) (C := RX3) (T := TX3) (N := 4) hx hb htG in_3 hown hK hw.1 2 (xo_2 a k3 u) rfl 0 (by decide) f_9 (fun _ h9 => h9) rfl dX3_squareBetween_7 ?_
    refine lv_iload_n hx hb dX3_squareBetween_10 rfl (lv_at hl 2 rfl) ?_
    obtain ⟨h2, hq⟩ := hq
    refine y_lald (t0 := 1) hx hb hK hw 1 (xo_10 a k3 u) rfl h2 dX3_squareBetween_11 ?_
    refine lv_lsub hx hb dX3_squareBetween_12 ?_
    let v3 : Int64 := ((s4_rb u 1 x1) - (s4_rb u 1 x2))
    refine lv_lstore_n (lv' := [(3, .long v3), (0, .ref (a 2)), (1, .int x1), (2, .int x2)]) hx hb dX3_squareBetween_13 rfl hl (by decide) rfl (fun ls hl => ?_)
    refine lv_aload_n hx hb dX3_squareBetween_14 rfl (lv_at hl 1 rfl) ?_
    refine va_get (D := D) (ci := 3) (v := .ref (a 11)) (C := RX3) (T := TX3) (N := 4) hx hb htG in_3 hown hK hw.1 2 (xo_2 a k3 u) rfl 1 (by decide) f_15 (fun _ h9 => h9) rfl dX3_squareBetween_15 ?_
    refine lv_iload_n hx hb dX3_squareBetween_18 rfl (lv_at hl 2 rfl) ?_
    obtain ⟨h4, hq⟩ := hq
    refine y_lald (t0 := 1) hx hb hK hw 2 (xo_11 a k3 u) rfl h4 dX3_squareBetween_19 ?_
    refine lv_aload_n hx hb dX3_squareBetween_20 rfl (lv_at hl 1 rfl) ?_
    refine va_get (D := D) (ci := 3) (v := .ref (a 11)) (C := RX3) (T := TX3) (N := 4) hx hb htG in_3 hown hK hw.1 2 (xo_2 a k3 u) rfl 1 (by decide) f_15 (fun _ h9 => h9) rfl dX3_squareBetween_21 ?_
    refine lv_iload_n hx hb dX3_squareBetween_24 rfl (lv_at hl 3 rfl) ?_
    have h5 := hq
    refine y_lald (t0 := 1) hx hb hK hw 2 (xo_11 a k3 u) rfl h5 dX3_squareBetween_25 ?_
    refine lv_lsub hx hb dX3_squareBetween_26 ?_
    let v6 : Int64 := ((s4_rb u 2 x1) - (s4_rb u 2 x2))
    refine lv_lstore (lv' := [(5, .long v6), (3, .long v3), (0, .ref (a 2)), (1, .int x1), (2, .int x2)]) hx hb dX3_squareBetween_27 hl (by decide) rfl (fun ls hl => ?_)
    refine lv_lload_n hx hb dX3_squareBetween_29 rfl (lv_at hl 1 rfl) ?_
    refine lv_lload_n hx hb dX3_squareBetween_30 rfl (lv_at hl 1 rfl) ?_
    refine lv_lmul hx hb dX3_squareBetween_31 ?_
    refine lv_lload hx hb dX3_squareBetween_32 (lv_at hl 0 rfl) ?_
    refine lv_lload hx hb dX3_squareBetween_34 (lv_at hl 0 rfl) ?_
    refine lv_lmul hx hb dX3_squareBetween_36 ?_
    refine lv_ladd hx hb dX3_squareBetween_37 ?_
    exact ret_l hx hb hr hlocks hw dX3_squareBetween_38 (congrArg (fun z => (z, u)) hP)
  exact hgo _ rfl s.heap [] hw
theorem dX2_squareBetweenEnds_0 : decode cX2_squareBetweenEnds 0 = .ok (.aload_n 0, 1) := by decide +kernel
theorem dX2_squareBetweenEnds_1 : decode cX2_squareBetweenEnds 1 = .ok (.getfield 12, 3) := by decide +kernel
theorem dX2_squareBetweenEnds_4 : decode cX2_squareBetweenEnds 4 = .ok (.aload_n 0, 1) := by decide +kernel
theorem dX2_squareBetweenEnds_5 : decode cX2_squareBetweenEnds 5 = .ok (.getfield 21, 3) := by decide +kernel
theorem dX2_squareBetweenEnds_8 : decode cX2_squareBetweenEnds 8 = .ok (.iload_n 1, 1) := by decide +kernel
theorem dX2_squareBetweenEnds_9 : decode cX2_squareBetweenEnds 9 = .ok (.invokevirtual 85, 3) := by decide +kernel
theorem dX2_squareBetweenEnds_12 : decode cX2_squareBetweenEnds 12 = .ok (.aload_n 0, 1) := by decide +kernel
theorem dX2_squareBetweenEnds_13 : decode cX2_squareBetweenEnds 13 = .ok (.getfield 21, 3) := by decide +kernel
theorem dX2_squareBetweenEnds_16 : decode cX2_squareBetweenEnds 16 = .ok (.iload_n 1, 1) := by decide +kernel
theorem dX2_squareBetweenEnds_17 : decode cX2_squareBetweenEnds 17 = .ok (.invokevirtual 88, 3) := by decide +kernel
theorem dX2_squareBetweenEnds_20 : decode cX2_squareBetweenEnds 20 = .ok (.invokevirtual 98, 3) := by decide +kernel
theorem dX2_squareBetweenEnds_23 : decode cX2_squareBetweenEnds 23 = .ok (.lreturn, 1) := by decide +kernel
abbrev rm_xNet_squareBetweenEnds : Room := { frames := 1, cells := 0, slots := 0, locals := 26 }
def xp_Net_squareBetweenEnds (u : S4) (x1 : Int32) : Int64 :=
  let r2 : Int32 := xp_Streets_nodeAOf u x1
  let r4 : Int32 := xp_Streets_nodeBOf u x1
  let r6 : Int64 := xp_Nodes_squareBetween u r2 r4
  r6
def xq_Net_squareBetweenEnds (u : S4) (x1 : Int32) : Prop :=
  xq_Streets_nodeAOf u x1 ∧
  let r2 : Int32 := xp_Streets_nodeAOf u x1
  xq_Streets_nodeBOf u x1 ∧
  let r4 : Int32 := xp_Streets_nodeBOf u x1
  xq_Nodes_squareBetween u r2 r4
set_option maxHeartbeats 4000000 in
set_option maxRecDepth 100000 in
theorem xc_Net_squareBetweenEnds (l : Launch) (D : va_G) (a : Nat → Nat) (k3 : K3) (u : S4) (x1 : Int32) (hq : xq_Net_squareBetweenEnds u x1) : ML l D vwCl (ty3 k3) nestW (xC a k3) yX2_squareBetweenEnds (kX2_squareBetweenEnds :: tbG) rm_xNet_squareBetweenEnds [.ref (a 1), .int x1] u (xp_Net_squareBetweenEnds u x1, u) := by
  refine mkL (cc := cX2_squareBetweenEnds) (maxL := 2) (ret := (some .long)) (by decide) rfl (Nat.le_of_ble_eq_true rfl) ?_
  intro p e s m below meth c A ls F hw hl
  generalize hav : ([.ref (a 1), .int x1] : List Value).toArray = av at F ⊢
  have hl : lv_has ls 2 [(0, .ref (a 1)), (1, .int x1)] := hl
  obtain ⟨hx, hb, hr, hml, hown, hts, hK, hN, hlocks, hA⟩ := id F
  have hown : s.vm.findClass RX2 = some m.cls := hown
  have htG : ∀ w ∈ tbG, w.before av s = true := fun w h => hts w (List.mem_cons_of_mem _ h)
  have f_12 := htG _ tb_113
  have f_21 := htG _ tb_115
  have hgo : ∀ P, xp_Net_squareBetweenEnds u x1 = P → ∀ (H : Heap) (locs : List Loc), wd D vwCl (xC a k3) A s.heap u H locs → W p l e rm_xNet_squareBetweenEnds s m av below meth c H locs 0 0 (QL below D vwCl (xC a k3) A av s (P, u)) (F0 m 0 ls []) := by
    intro P hP H locs hw
    refine lv_aload_n hx hb dX2_squareBetweenEnds_0 rfl (lv_at hl 0 rfl) ?_
    refine va_get (D := D) (ci := 2) (v := .ref (a 2)) (C := RX2) (T := TX2) (N := 5) hx hb htG in_2 hown hK hw.1 1 (xo_1 a k3 u) rfl 0 (by decide) f_12 (fun _ h9 => h9) rfl dX2_squareBetweenEnds_1 ?_
    refine lv_aload_n hx hb dX2_squareBetweenEnds_4 rfl (lv_at hl 0 rfl) ?_
    refine va_get (D := D) (ci := 2) (v := .ref (a 3)) (C := RX2) (T := TX2) (N := 5) hx hb htG in_2 hown hK hw.1 1 (xo_1 a k3 u) rfl 1 (by decide) f_21 (fun _ h9 => h9) rfl dX2_squareBetweenEnds_5 ?_
    refine lv_iload_n hx hb dX2_squareBetweenEnds_8 rfl (lv_at hl 1 rfl) ?_
    obtain ⟨h1, hq⟩ := hq
    let r2 : Int32 := xp_Streets_nodeAOf u x1
    refine call_vir (rest := [.ref (a 2)]) ⟨hx, hb, hml, hown, htG⟩ nestW_ok hK hN hA (xc_Streets_nodeAOf l D a k3 u x1 h1) (cwV 1 htG (tb_V tb_479 tb_480 tb_481 tb_23 tb_482) rfl rfl rfl (by decide +kernel) ⟨Nat.le_of_ble_eq_true rfl, Nat.le_of_ble_eq_true rfl⟩) (ci := 5) rfl (xo_3 a k3 u) rfl hw rfl hl.1 rfl (Nat.le_of_ble_eq_true rfl) dX2_squareBetweenEnds_9 ⟨Nat.zero_le _, Nat.zero_le _⟩ (fun H locs (hw : wd D vwCl (xC a k3) A s.heap u H locs) => ?_)
    refine lv_aload_n hx hb dX2_squareBetweenEnds_12 rfl (lv_at hl 0 rfl) ?_
    refine va_get (D := D) (ci := 2) (v := .ref (a 3)) (C := RX2) (T := TX2) (N := 5) hx hb htG in_2 hown hK hw.1 1 (xo_1 a k3 u) rfl 1 (by decide) f_21 (fun _ h9 => h9) rfl dX2_squareBetweenEnds_13 ?_
    refine lv_iload_n hx hb dX2_squareBetweenEnds_16 rfl (lv_at hl 1 rfl) ?_
    obtain ⟨h3, hq⟩ := hq
    let r4 : Int32 := xp_Streets_nodeBOf u x1
    refine call_vir (rest := [.int r2, .ref (a 2)]) ⟨hx, hb, hml, hown, htG⟩ nestW_ok hK hN hA (xc_Streets_nodeBOf l D a k3 u x1 h3) (cwV 1 htG (tb_V tb_483 tb_484 tb_485 tb_23 tb_486) rfl rfl rfl (by decide +kernel) ⟨Nat.le_of_ble_eq_true rfl, Nat.le_of_ble_eq_true rfl⟩) (ci := 5) rfl (xo_3 a k3 u) rfl hw rfl hl.1 rfl (Nat.le_of_ble_eq_true rfl) dX2_squareBetweenEnds_17 ⟨Nat.zero_le _, Nat.zero_le _⟩ (fun H locs (hw : wd D vwCl (xC a k3) A s.heap u H locs) => ?_)
    have h5 := hq
    let r6 : Int64 := xp_Nodes_squareBetween u r2 r4
    refine call_vlr (rest := []) ⟨hx, hb, hml, hown, htG⟩ nestW_ok hK hN hA (xc_Nodes_squareBetween l D a k3 u r2 r4 h5) (cwV 2 htG (tb_V tb_504 tb_505 tb_506 tb_22 tb_507) rfl rfl rfl (by decide +kernel) ⟨Nat.le_of_ble_eq_true rfl, Nat.le_of_ble_eq_true rfl⟩) (ci := 3) rfl (xo_2 a k3 u) rfl hw rfl hl.1 rfl (Nat.le_of_ble_eq_true rfl) dX2_squareBetweenEnds_20 ⟨Nat.zero_le _, Nat.zero_le _⟩ (fun H locs (hw : wd D vwCl (xC a k3) A s.heap u H locs) => ?_)
    exact ret_l hx hb hr hlocks hw dX2_squareBetweenEnds_23 (congrArg (fun z => (z, u)) hP)
  exact hgo _ rfl s.heap [] hw
theorem dX7_span_0 : decode cX7_span 0 = .ok (.aload_n 0, 1) := by decide +kernel
theorem dX7_span_1 : decode cX7_span 1 = .ok (.getfield 12, 3) := by decide +kernel
theorem dX7_span_4 : decode cX7_span 4 = .ok (.getfield 55, 3) := by decide +kernel
theorem dX7_span_7 : decode cX7_span 7 = .ok (.iload_n 1, 1) := by decide +kernel
theorem dX7_span_8 : decode cX7_span 8 = .ok (.invokevirtual 64, 3) := by decide +kernel
theorem dX7_span_11 : decode cX7_span 11 = .ok (.ifCond .ne 7, 3) := by decide +kernel
theorem dX7_span_14 : decode cX7_span 14 = .ok (.ldc2_w 151, 3) := by decide +kernel
theorem dX7_span_17 : decode cX7_span 17 = .ok (.lreturn, 1) := by decide +kernel
theorem dX7_span_18 : decode cX7_span 18 = .ok (.aload_n 0, 1) := by decide +kernel
theorem dX7_span_19 : decode cX7_span 19 = .ok (.getfield 12, 3) := by decide +kernel
theorem dX7_span_22 : decode cX7_span 22 = .ok (.iload_n 1, 1) := by decide +kernel
theorem dX7_span_23 : decode cX7_span 23 = .ok (.invokevirtual 153, 3) := by decide +kernel
theorem dX7_span_26 : decode cX7_span 26 = .ok (.lreturn, 1) := by decide +kernel
abbrev rm_xO_span : Room := { frames := 2, cells := 0, slots := 0, locals := 47 }
def xp_O_span (u : S4) (x1 : Int32) : Int64 :=
  let r1 : Int32 := xp_Streets_has u x1
  if r1 = (0 : Int32) then
    (-1 : Int64)
  else
    let r4 : Int64 := xp_Net_squareBetweenEnds u x1
    r4
def xq_O_span (u : S4) (x1 : Int32) : Prop :=
  let r1 : Int32 := xp_Streets_has u x1
  (¬ r1 = (0 : Int32) →
    xq_Net_squareBetweenEnds u x1)
set_option maxHeartbeats 4000000 in
set_option maxRecDepth 100000 in
theorem xc_O_span (l : Launch) (D : va_G) (a : Nat → Nat) (k3 : K3) (u : S4) (x1 : Int32) (hq : xq_O_span u x1) : ML l D vwCl (ty3 k3) nestW (xC a k3) yX7_span (kX7_span :: tbG) rm_xO_span [.ref (a 0), .int x1] u (xp_O_span u x1, u) := by
  refine mkL (cc := cX7_span) (maxL := 2) (ret := (some .long)) (by decide) rfl (Nat.le_of_ble_eq_true rfl) ?_
  intro p e s m below meth c A ls F hw hl
  generalize hav : ([.ref (a 0), .int x1] : List Value).toArray = av at F ⊢
  have hl : lv_has ls 2 [(0, .ref (a 0)), (1, .int x1)] := hl
  obtain ⟨hx, hb, hr, hml, hown, hts, hK, hN, hlocks, hA⟩ := id F
  have hown : s.vm.findClass RX7 = some m.cls := hown
  have htG : ∀ w ∈ tbG, w.before av s = true := fun w h => hts w (List.mem_cons_of_mem _ h)
  have f_12 := htG _ tb_188
  have f_55 := va_Nw.use (A := av) rfl (hN _ nw_6)
  have k_151 := htG _ tb_499
  have hgo : ∀ P, xp_O_span u x1 = P → ∀ (H : Heap) (locs : List Loc), wd D vwCl (xC a k3) A s.heap u H locs → W p l e rm_xO_span s m av below meth c H locs 0 0 (QL below D vwCl (xC a k3) A av s (P, u)) (F0 m 0 ls []) := by
    intro P hP H locs hw
    refine lv_aload_n hx hb dX7_span_0 rfl (lv_at hl 0 rfl) ?_
    refine va_get (D := D) (ci := 7) (v := .ref (a 1)) (C := RX7) (T := TX7) (N := 4) hx hb htG in_7 hown hK hw.1 0 (xo_0 a k3 u) rfl 0 (by decide) f_12 (fun _ h9 => h9) rfl dX7_span_1 ?_
    refine va_getN (D := D) (ci := 2) (v := .ref (a 3)) (C := RX2) (T := TX2) (N := 5) hx hb htG in_2 hown hK hw.1 1 (xo_1 a k3 u) rfl 1 (by decide) f_55 (fun _ h9 => h9) rfl dX7_span_4 ?_
    refine lv_iload_n hx hb dX7_span_7 rfl (lv_at hl 1 rfl) ?_
    let r1 : Int32 := xp_Streets_has u x1
    refine call_vir (rest := []) ⟨hx, hb, hml, hown, htG⟩ nestW_ok hK hN hA (xc_Streets_has l D a k3 u x1) (cwV 1 htG (tb_V tb_240 tb_241 tb_242 tb_23 tb_243) rfl rfl rfl (by decide +kernel) ⟨Nat.le_of_ble_eq_true rfl, Nat.le_of_ble_eq_true rfl⟩) (ci := 5) rfl (xo_3 a k3 u) rfl hw rfl hl.1 rfl (Nat.le_of_ble_eq_true rfl) dX7_span_8 ⟨Nat.zero_le _, Nat.zero_le _⟩ (fun H locs (hw : wd D vwCl (xC a k3) A s.heap u H locs) => ?_)
    refine lv_if_ne (tgt := 18) hx hb dX7_span_11 (by decide) (fun c2 => ?_) (fun c2 => ?_)
    · have hP := (if_neg c2).symm.trans hP
      have hq := hq c2
      refine lv_aload_n hx hb dX7_span_18 rfl (lv_at hl 0 rfl) ?_
      refine va_get (D := D) (ci := 7) (v := .ref (a 1)) (C := RX7) (T := TX7) (N := 4) hx hb htG in_7 hown hK hw.1 0 (xo_0 a k3 u) rfl 0 (by decide) f_12 (fun _ h9 => h9) rfl dX7_span_19 ?_
      refine lv_iload_n hx hb dX7_span_22 rfl (lv_at hl 1 rfl) ?_
      have h3 := hq
      let r4 : Int64 := xp_Net_squareBetweenEnds u x1
      refine call_vlr (rest := []) ⟨hx, hb, hml, hown, htG⟩ nestW_ok hK hN hA (xc_Net_squareBetweenEnds l D a k3 u x1 h3) (cwV 1 htG (tb_V tb_500 tb_501 tb_502 tb_21 tb_503) rfl rfl rfl (by decide +kernel) ⟨Nat.le_of_ble_eq_true rfl, Nat.le_of_ble_eq_true rfl⟩) (ci := 2) rfl (xo_1 a k3 u) rfl hw rfl hl.1 rfl (Nat.le_of_ble_eq_true rfl) dX7_span_23 ⟨Nat.zero_le _, Nat.zero_le _⟩ (fun H locs (hw : wd D vwCl (xC a k3) A s.heap u H locs) => ?_)
      exact ret_l hx hb hr hlocks hw dX7_span_26 (congrArg (fun z => (z, u)) hP)
    · have hP := (if_pos c2).symm.trans hP
      refine lv_ldc2 (v := -1) hx hb hown k_151 dX7_span_14 ?_
      exact ret_l hx hb hr hlocks hw dX7_span_17 (congrArg (fun z => (z, u)) hP)
  exact hgo _ rfl s.heap [] hw
theorem dX8_isIn_0 : decode cX8_isIn 0 = .ok (.lload_n 0, 1) := by decide +kernel
theorem dX8_isIn_1 : decode cX8_isIn 1 = .ok (.lload_n 2, 1) := by decide +kernel
theorem dX8_isIn_2 : decode cX8_isIn 2 = .ok (.lcmp, 1) := by decide +kernel
theorem dX8_isIn_3 : decode cX8_isIn 3 = .ok (.ifCond .lt 14, 3) := by decide +kernel
theorem dX8_isIn_6 : decode cX8_isIn 6 = .ok (.lload_n 0, 1) := by decide +kernel
theorem dX8_isIn_7 : decode cX8_isIn 7 = .ok (.lload 4, 2) := by decide +kernel
theorem dX8_isIn_9 : decode cX8_isIn 9 = .ok (.lcmp, 1) := by decide +kernel
theorem dX8_isIn_10 : decode cX8_isIn 10 = .ok (.ifCond .gt 7, 3) := by decide +kernel
theorem dX8_isIn_13 : decode cX8_isIn 13 = .ok (.iconst 1, 1) := by decide +kernel
theorem dX8_isIn_14 : decode cX8_isIn 14 = .ok (.goto 4, 3) := by decide +kernel
theorem dX8_isIn_17 : decode cX8_isIn 17 = .ok (.iconst 0, 1) := by decide +kernel
theorem dX8_isIn_18 : decode cX8_isIn 18 = .ok (.ireturn, 1) := by decide +kernel
abbrev rm_mM_isIn : Room := { frames := 0, cells := 0, slots := 0, locals := 0 }
def mp_M_isIn (u : S4) (x0 : Int64) (x2 : Int64) (x4 : Int64) : Int32 :=
  if (lg_cmp x0 x2) < (0 : Int32) then
    (0 : Int32)
  else
    if (0 : Int32) < (lg_cmp x0 x4) then
      (0 : Int32)
    else
      (1 : Int32)
set_option maxHeartbeats 4000000 in
set_option maxRecDepth 100000 in
theorem mc_M_isIn (l : Launch) (D : va_G) (a : Nat → Nat) (k3 : K3) (u : S4) (x0 : Int64) (x2 : Int64) (x4 : Int64) : MI l D vwCl (ty3 k3) nestW (mC a k3) yX8_isIn (kX8_isIn :: tbG) rm_mM_isIn [.long x0, .long x2, .long x4] u (mp_M_isIn u x0 x2 x4, u) := by
  refine mkI (cc := cX8_isIn) (maxL := 6) (ret := (some .boolean)) (by decide) rfl (Nat.le_of_ble_eq_true rfl) ?_
  intro p e s m below meth c A ls F hw hl
  generalize hav : ([.long x0, .long x2, .long x4] : List Value).toArray = av at F ⊢
  have hl : lv_has ls 6 [(0, .long x0), (2, .long x2), (4, .long x4)] := hl
  obtain ⟨hx, hb, hr, hml, hown, hts, hK, hN, hlocks, hA⟩ := id F
  have hown : s.vm.findClass RX8 = some m.cls := hown
  have htG : ∀ w ∈ tbG, w.before av s = true := fun w h => hts w (List.mem_cons_of_mem _ h)
  have hgo : ∀ P, mp_M_isIn u x0 x2 x4 = P → ∀ (H : Heap) (locs : List Loc), wd D vwCl (mC a k3) A s.heap u H locs → W p l e rm_mM_isIn s m av below meth c H locs 0 0 (QI below D vwCl (mC a k3) A av s (P, u)) (F0 m 0 ls []) := by
    intro P hP H locs hw
    refine lv_lload_n hx hb dX8_isIn_0 rfl (lv_at hl 0 rfl) ?_
    refine lv_lload_n hx hb dX8_isIn_1 rfl (lv_at hl 1 rfl) ?_
    refine W.lcmp hx hb dX8_isIn_2 ?_
    refine lv_if_lt (tgt := 17) hx hb dX8_isIn_3 (by decide) (fun c1 => ?_) (fun c1 => ?_)
    · have hP := (if_pos c1).symm.trans hP
      refine lv_iconst (v := 0) hx hb dX8_isIn_17 (by decide) ?_
      exact ret_z hx hb hr hlocks hw rfl dX8_isIn_18 (congrArg (fun z => (z, u)) hP)
    · have hP := (if_neg c1).symm.trans hP
      refine lv_lload_n hx hb dX8_isIn_6 rfl (lv_at hl 0 rfl) ?_
      refine lv_lload hx hb dX8_isIn_7 (lv_at hl 2 rfl) ?_
      refine W.lcmp hx hb dX8_isIn_9 ?_
      refine lv_if_gt (tgt := 17) hx hb dX8_isIn_10 (by decide) (fun c2 => ?_) (fun c2 => ?_)
      · have hP := (if_pos c2).symm.trans hP
        refine lv_iconst (v := 0) hx hb dX8_isIn_17 (by decide) ?_
        exact ret_z hx hb hr hlocks hw rfl dX8_isIn_18 (congrArg (fun z => (z, u)) hP)
      · have hP := (if_neg c2).symm.trans hP
        refine lv_iconst (v := 1) hx hb dX8_isIn_13 (by decide) ?_
        refine lv_goto (tgt := 18) hx hb dX8_isIn_14 (by decide) ?_
        exact ret_z hx hb hr hlocks hw rfl dX8_isIn_18 (congrArg (fun z => (z, u)) hP)
  exact hgo _ rfl s.heap [] hw
theorem dX8_isNode_0 : decode cX8_isNode 0 = .ok (.iload_n 1, 1) := by decide +kernel
theorem dX8_isNode_1 : decode cX8_isNode 1 = .ok (.ifCond .lt 15, 3) := by decide +kernel
theorem dX8_isNode_4 : decode cX8_isNode 4 = .ok (.iload_n 1, 1) := by decide +kernel
theorem dX8_isNode_5 : decode cX8_isNode 5 = .ok (.aload_n 0, 1) := by decide +kernel
theorem dX8_isNode_6 : decode cX8_isNode 6 = .ok (.getfield 82, 3) := by decide +kernel
theorem dX8_isNode_9 : decode cX8_isNode 9 = .ok (.if_icmp .ge 7, 3) := by decide +kernel
theorem dX8_isNode_12 : decode cX8_isNode 12 = .ok (.iconst 1, 1) := by decide +kernel
theorem dX8_isNode_13 : decode cX8_isNode 13 = .ok (.goto 4, 3) := by decide +kernel
theorem dX8_isNode_16 : decode cX8_isNode 16 = .ok (.iconst 0, 1) := by decide +kernel
theorem dX8_isNode_17 : decode cX8_isNode 17 = .ok (.ireturn, 1) := by decide +kernel
abbrev rm_mM_isNode : Room := { frames := 0, cells := 0, slots := 0, locals := 0 }
def mp_M_isNode (u : S4) (x1 : Int32) : Int32 :=
  if x1 < (0 : Int32) then
    (0 : Int32)
  else
    if (s4_i u 0) ≤ x1 then
      (0 : Int32)
    else
      (1 : Int32)
set_option maxHeartbeats 4000000 in
set_option maxRecDepth 100000 in
theorem mc_M_isNode (l : Launch) (D : va_G) (a : Nat → Nat) (k3 : K3) (u : S4) (x1 : Int32) : MI l D vwCl (ty3 k3) nestW (mC a k3) yX8_isNode (kX8_isNode :: tbG) rm_mM_isNode [.ref (a 0), .int x1] u (mp_M_isNode u x1, u) := by
  refine mkI (cc := cX8_isNode) (maxL := 2) (ret := (some .boolean)) (by decide) rfl (Nat.le_of_ble_eq_true rfl) ?_
  intro p e s m below meth c A ls F hw hl
  generalize hav : ([.ref (a 0), .int x1] : List Value).toArray = av at F ⊢
  have hl : lv_has ls 2 [(0, .ref (a 0)), (1, .int x1)] := hl
  obtain ⟨hx, hb, hr, hml, hown, hts, hK, hN, hlocks, hA⟩ := id F
  have hown : s.vm.findClass RX8 = some m.cls := hown
  have htG : ∀ w ∈ tbG, w.before av s = true := fun w h => hts w (List.mem_cons_of_mem _ h)
  have f_82 := htG _ tb_514
  have hgo : ∀ P, mp_M_isNode u x1 = P → ∀ (H : Heap) (locs : List Loc), wd D vwCl (mC a k3) A s.heap u H locs → W p l e rm_mM_isNode s m av below meth c H locs 0 0 (QI below D vwCl (mC a k3) A av s (P, u)) (F0 m 0 ls []) := by
    intro P hP H locs hw
    refine lv_iload_n hx hb dX8_isNode_0 rfl (lv_at hl 1 rfl) ?_
    refine lv_if_lt (tgt := 16) hx hb dX8_isNode_1 (by decide) (fun c1 => ?_) (fun c1 => ?_)
    · have hP := (if_pos c1).symm.trans hP
      refine lv_iconst (v := 0) hx hb dX8_isNode_16 (by decide) ?_
      exact ret_z hx hb hr hlocks hw rfl dX8_isNode_17 (congrArg (fun z => (z, u)) hP)
    · have hP := (if_neg c1).symm.trans hP
      refine lv_iload_n hx hb dX8_isNode_4 rfl (lv_at hl 1 rfl) ?_
      refine lv_aload_n hx hb dX8_isNode_5 rfl (lv_at hl 0 rfl) ?_
      refine va_get (D := D) (ci := 8) (v := .int (s4_i u 0)) (C := RX8) (T := TX8) (N := 28) hx hb htG in_8 hown hK hw.1 0 (mo_0 a k3 u) rfl 0 (by decide) f_82 (fun _ h9 => h9) rfl dX8_isNode_6 ?_
      refine lv_icmp_ge (tgt := 16) hx hb dX8_isNode_9 (by decide) (fun c2 => ?_) (fun c2 => ?_)
      · have hP := (if_pos c2).symm.trans hP
        refine lv_iconst (v := 0) hx hb dX8_isNode_16 (by decide) ?_
        exact ret_z hx hb hr hlocks hw rfl dX8_isNode_17 (congrArg (fun z => (z, u)) hP)
      · have hP := (if_neg c2).symm.trans hP
        refine lv_iconst (v := 1) hx hb dX8_isNode_12 (by decide) ?_
        refine lv_goto (tgt := 17) hx hb dX8_isNode_13 (by decide) ?_
        exact ret_z hx hb hr hlocks hw rfl dX8_isNode_17 (congrArg (fun z => (z, u)) hP)
  exact hgo _ rfl s.heap [] hw
theorem dX8_isStreet_0 : decode cX8_isStreet 0 = .ok (.iload_n 1, 1) := by decide +kernel
theorem dX8_isStreet_1 : decode cX8_isStreet 1 = .ok (.ifCond .lt 15, 3) := by decide +kernel
theorem dX8_isStreet_4 : decode cX8_isStreet 4 = .ok (.iload_n 1, 1) := by decide +kernel
theorem dX8_isStreet_5 : decode cX8_isStreet 5 = .ok (.aload_n 0, 1) := by decide +kernel
theorem dX8_isStreet_6 : decode cX8_isStreet 6 = .ok (.getfield 85, 3) := by decide +kernel
theorem dX8_isStreet_9 : decode cX8_isStreet 9 = .ok (.if_icmp .ge 7, 3) := by decide +kernel
theorem dX8_isStreet_12 : decode cX8_isStreet 12 = .ok (.iconst 1, 1) := by decide +kernel
theorem dX8_isStreet_13 : decode cX8_isStreet 13 = .ok (.goto 4, 3) := by decide +kernel
theorem dX8_isStreet_16 : decode cX8_isStreet 16 = .ok (.iconst 0, 1) := by decide +kernel
theorem dX8_isStreet_17 : decode cX8_isStreet 17 = .ok (.ireturn, 1) := by decide +kernel
abbrev rm_mM_isStreet : Room := { frames := 0, cells := 0, slots := 0, locals := 0 }
def mp_M_isStreet (u : S4) (x1 : Int32) : Int32 :=
  if x1 < (0 : Int32) then
    (0 : Int32)
  else
    if (s4_i u 1) ≤ x1 then
      (0 : Int32)
    else
      (1 : Int32)
set_option maxHeartbeats 4000000 in
set_option maxRecDepth 100000 in
theorem mc_M_isStreet (l : Launch) (D : va_G) (a : Nat → Nat) (k3 : K3) (u : S4) (x1 : Int32) : MI l D vwCl (ty3 k3) nestW (mC a k3) yX8_isStreet (kX8_isStreet :: tbG) rm_mM_isStreet [.ref (a 0), .int x1] u (mp_M_isStreet u x1, u) := by
  refine mkI (cc := cX8_isStreet) (maxL := 2) (ret := (some .boolean)) (by decide) rfl (Nat.le_of_ble_eq_true rfl) ?_
  intro p e s m below meth c A ls F hw hl
  generalize hav : ([.ref (a 0), .int x1] : List Value).toArray = av at F ⊢
  have hl : lv_has ls 2 [(0, .ref (a 0)), (1, .int x1)] := hl
  obtain ⟨hx, hb, hr, hml, hown, hts, hK, hN, hlocks, hA⟩ := id F
  have hown : s.vm.findClass RX8 = some m.cls := hown
  have htG : ∀ w ∈ tbG, w.before av s = true := fun w h => hts w (List.mem_cons_of_mem _ h)
  have f_85 := htG _ tb_518
  have hgo : ∀ P, mp_M_isStreet u x1 = P → ∀ (H : Heap) (locs : List Loc), wd D vwCl (mC a k3) A s.heap u H locs → W p l e rm_mM_isStreet s m av below meth c H locs 0 0 (QI below D vwCl (mC a k3) A av s (P, u)) (F0 m 0 ls []) := by
    intro P hP H locs hw
    refine lv_iload_n hx hb dX8_isStreet_0 rfl (lv_at hl 1 rfl) ?_
    refine lv_if_lt (tgt := 16) hx hb dX8_isStreet_1 (by decide) (fun c1 => ?_) (fun c1 => ?_)
    · have hP := (if_pos c1).symm.trans hP
      refine lv_iconst (v := 0) hx hb dX8_isStreet_16 (by decide) ?_
      exact ret_z hx hb hr hlocks hw rfl dX8_isStreet_17 (congrArg (fun z => (z, u)) hP)
    · have hP := (if_neg c1).symm.trans hP
      refine lv_iload_n hx hb dX8_isStreet_4 rfl (lv_at hl 1 rfl) ?_
      refine lv_aload_n hx hb dX8_isStreet_5 rfl (lv_at hl 0 rfl) ?_
      refine va_get (D := D) (ci := 8) (v := .int (s4_i u 1)) (C := RX8) (T := TX8) (N := 28) hx hb htG in_8 hown hK hw.1 0 (mo_0 a k3 u) rfl 4 (by decide) f_85 (fun _ h9 => h9) rfl dX8_isStreet_6 ?_
      refine lv_icmp_ge (tgt := 16) hx hb dX8_isStreet_9 (by decide) (fun c2 => ?_) (fun c2 => ?_)
      · have hP := (if_pos c2).symm.trans hP
        refine lv_iconst (v := 0) hx hb dX8_isStreet_16 (by decide) ?_
        exact ret_z hx hb hr hlocks hw rfl dX8_isStreet_17 (congrArg (fun z => (z, u)) hP)
      · have hP := (if_neg c2).symm.trans hP
        refine lv_iconst (v := 1) hx hb dX8_isStreet_12 (by decide) ?_
        refine lv_goto (tgt := 17) hx hb dX8_isStreet_13 (by decide) ?_
        exact ret_z hx hb hr hlocks hw rfl dX8_isStreet_17 (congrArg (fun z => (z, u)) hP)
  exact hgo _ rfl s.heap [] hw
theorem dX8_isSide_0 : decode cX8_isSide 0 = .ok (.aload_n 0, 1) := by decide +kernel
theorem dX8_isSide_1 : decode cX8_isSide 1 = .ok (.iload_n 1, 1) := by decide +kernel
theorem dX8_isSide_2 : decode cX8_isSide 2 = .ok (.invokevirtual 88, 3) := by decide +kernel
theorem dX8_isSide_5 : decode cX8_isSide 5 = .ok (.ifCond .eq 16, 3) := by decide +kernel
theorem dX8_isSide_8 : decode cX8_isSide 8 = .ok (.iload_n 2, 1) := by decide +kernel
theorem dX8_isSide_9 : decode cX8_isSide 9 = .ok (.ifCond .eq 8, 3) := by decide +kernel
theorem dX8_isSide_12 : decode cX8_isSide 12 = .ok (.iload_n 2, 1) := by decide +kernel
theorem dX8_isSide_13 : decode cX8_isSide 13 = .ok (.iconst 1, 1) := by decide +kernel
theorem dX8_isSide_14 : decode cX8_isSide 14 = .ok (.if_icmp .ne 7, 3) := by decide +kernel
theorem dX8_isSide_17 : decode cX8_isSide 17 = .ok (.iconst 1, 1) := by decide +kernel
theorem dX8_isSide_18 : decode cX8_isSide 18 = .ok (.goto 4, 3) := by decide +kernel
theorem dX8_isSide_21 : decode cX8_isSide 21 = .ok (.iconst 0, 1) := by decide +kernel
theorem dX8_isSide_22 : decode cX8_isSide 22 = .ok (.ireturn, 1) := by decide +kernel
abbrev rm_mM_isSide : Room := { frames := 1, cells := 0, slots := 0, locals := 21 }
def mp_M_isSide (u : S4) (x1 : Int32) (x2 : Int32) : Int32 :=
  let r1 : Int32 := mp_M_isStreet u x1
  if r1 = (0 : Int32) then
    (0 : Int32)
  else
    if x2 = (0 : Int32) then
      (1 : Int32)
    else
      if x2 = (1 : Int32) then
        (1 : Int32)
      else
        (0 : Int32)
set_option maxHeartbeats 4000000 in
set_option maxRecDepth 100000 in
theorem mc_M_isSide (l : Launch) (D : va_G) (a : Nat → Nat) (k3 : K3) (u : S4) (x1 : Int32) (x2 : Int32) : MI l D vwCl (ty3 k3) nestW (mC a k3) yX8_isSide (kX8_isSide :: tbG) rm_mM_isSide [.ref (a 0), .int x1, .int x2] u (mp_M_isSide u x1 x2, u) := by
  refine mkI (cc := cX8_isSide) (maxL := 3) (ret := (some .boolean)) (by decide) rfl (Nat.le_of_ble_eq_true rfl) ?_
  intro p e s m below meth c A ls F hw hl
  generalize hav : ([.ref (a 0), .int x1, .int x2] : List Value).toArray = av at F ⊢
  have hl : lv_has ls 3 [(0, .ref (a 0)), (1, .int x1), (2, .int x2)] := hl
  obtain ⟨hx, hb, hr, hml, hown, hts, hK, hN, hlocks, hA⟩ := id F
  have hown : s.vm.findClass RX8 = some m.cls := hown
  have htG : ∀ w ∈ tbG, w.before av s = true := fun w h => hts w (List.mem_cons_of_mem _ h)
  have hgo : ∀ P, mp_M_isSide u x1 x2 = P → ∀ (H : Heap) (locs : List Loc), wd D vwCl (mC a k3) A s.heap u H locs → W p l e rm_mM_isSide s m av below meth c H locs 0 0 (QI below D vwCl (mC a k3) A av s (P, u)) (F0 m 0 ls []) := by
    intro P hP H locs hw
    refine lv_aload_n hx hb dX8_isSide_0 rfl (lv_at hl 0 rfl) ?_
    refine lv_iload_n hx hb dX8_isSide_1 rfl (lv_at hl 1 rfl) ?_
    let r1 : Int32 := mp_M_isStreet u x1
    refine call_vir (rest := []) ⟨hx, hb, hml, hown, htG⟩ nestW_ok hK hN hA (mc_M_isStreet l D a k3 u x1) (cwV 1 htG (tb_V tb_624 tb_626 tb_10 tb_28 tb_627) rfl rfl rfl (by decide +kernel) ⟨Nat.le_of_ble_eq_true rfl, Nat.le_of_ble_eq_true rfl⟩) (ci := 8) rfl (mo_0 a k3 u) rfl hw rfl hl.1 rfl (Nat.le_of_ble_eq_true rfl) dX8_isSide_2 ⟨Nat.zero_le _, Nat.zero_le _⟩ (fun H locs (hw : wd D vwCl (mC a k3) A s.heap u H locs) => ?_)
    refine lv_if_eq (tgt := 21) hx hb dX8_isSide_5 (by decide) (fun c2 => ?_) (fun c2 => ?_)
    · have hP := (if_pos c2).symm.trans hP
      refine lv_iconst (v := 0) hx hb dX8_isSide_21 (by decide) ?_
      exact ret_z hx hb hr hlocks hw rfl dX8_isSide_22 (congrArg (fun z => (z, u)) hP)
    · have hP := (if_neg c2).symm.trans hP
      refine lv_iload_n hx hb dX8_isSide_8 rfl (lv_at hl 2 rfl) ?_
      refine lv_if_eq (tgt := 17) hx hb dX8_isSide_9 (by decide) (fun c3 => ?_) (fun c3 => ?_)
      · have hP := (if_pos c3).symm.trans hP
        refine lv_iconst (v := 1) hx hb dX8_isSide_17 (by decide) ?_
        refine lv_goto (tgt := 22) hx hb dX8_isSide_18 (by decide) ?_
        exact ret_z hx hb hr hlocks hw rfl dX8_isSide_22 (congrArg (fun z => (z, u)) hP)
      · have hP := (if_neg c3).symm.trans hP
        refine lv_iload_n hx hb dX8_isSide_12 rfl (lv_at hl 2 rfl) ?_
        refine lv_iconst (v := 1) hx hb dX8_isSide_13 (by decide) ?_
        refine lv_icmp_ne (tgt := 21) hx hb dX8_isSide_14 (by decide) (fun c4 => ?_) (fun c4 => ?_)
        · have hP := (if_neg c4).symm.trans hP
          refine lv_iconst (v := 0) hx hb dX8_isSide_21 (by decide) ?_
          exact ret_z hx hb hr hlocks hw rfl dX8_isSide_22 (congrArg (fun z => (z, u)) hP)
        · have hP := (if_pos c4).symm.trans hP
          refine lv_iconst (v := 1) hx hb dX8_isSide_17 (by decide) ?_
          refine lv_goto (tgt := 22) hx hb dX8_isSide_18 (by decide) ?_
          exact ret_z hx hb hr hlocks hw rfl dX8_isSide_22 (congrArg (fun z => (z, u)) hP)
  exact hgo _ rfl s.heap [] hw
theorem dX8_node_0 : decode cX8_node 0 = .ok (.aload_n 0, 1) := by decide +kernel
theorem dX8_node_1 : decode cX8_node 1 = .ok (.getfield 82, 3) := by decide +kernel
theorem dX8_node_4 : decode cX8_node 4 = .ok (.bipush 8, 2) := by decide +kernel
theorem dX8_node_6 : decode cX8_node 6 = .ok (.if_icmp .eq 29, 3) := by decide +kernel
theorem dX8_node_9 : decode cX8_node 9 = .ok (.lload_n 1, 1) := by decide +kernel
theorem dX8_node_10 : decode cX8_node 10 = .ok (.ldc2_w 92, 3) := by decide +kernel
theorem dX8_node_13 : decode cX8_node 13 = .ok (.ldc2_w 94, 3) := by decide +kernel
theorem dX8_node_16 : decode cX8_node 16 = .ok (.invokestatic 96, 3) := by decide +kernel
theorem dX8_node_19 : decode cX8_node 19 = .ok (.ifCond .eq 16, 3) := by decide +kernel
theorem dX8_node_22 : decode cX8_node 22 = .ok (.lload_n 3, 1) := by decide +kernel
theorem dX8_node_23 : decode cX8_node 23 = .ok (.ldc2_w 92, 3) := by decide +kernel
theorem dX8_node_26 : decode cX8_node 26 = .ok (.ldc2_w 94, 3) := by decide +kernel
theorem dX8_node_29 : decode cX8_node 29 = .ok (.invokestatic 96, 3) := by decide +kernel
theorem dX8_node_32 : decode cX8_node 32 = .ok (.ifCond .ne 5, 3) := by decide +kernel
theorem dX8_node_35 : decode cX8_node 35 = .ok (.iconst (-1), 1) := by decide +kernel
theorem dX8_node_36 : decode cX8_node 36 = .ok (.ireturn, 1) := by decide +kernel
theorem dX8_node_37 : decode cX8_node 37 = .ok (.aload_n 0, 1) := by decide +kernel
theorem dX8_node_38 : decode cX8_node 38 = .ok (.getfield 7, 3) := by decide +kernel
theorem dX8_node_41 : decode cX8_node 41 = .ok (.aload_n 0, 1) := by decide +kernel
theorem dX8_node_42 : decode cX8_node 42 = .ok (.getfield 82, 3) := by decide +kernel
theorem dX8_node_45 : decode cX8_node 45 = .ok (.lload_n 1, 1) := by decide +kernel
theorem dX8_node_46 : decode cX8_node 46 = .ok (.l2i, 1) := by decide +kernel
theorem dX8_node_47 : decode cX8_node 47 = .ok (.iastore, 1) := by decide +kernel
theorem dX8_node_48 : decode cX8_node 48 = .ok (.aload_n 0, 1) := by decide +kernel
theorem dX8_node_49 : decode cX8_node 49 = .ok (.getfield 13, 3) := by decide +kernel
theorem dX8_node_52 : decode cX8_node 52 = .ok (.aload_n 0, 1) := by decide +kernel
theorem dX8_node_53 : decode cX8_node 53 = .ok (.getfield 82, 3) := by decide +kernel
theorem dX8_node_56 : decode cX8_node 56 = .ok (.lload_n 3, 1) := by decide +kernel
theorem dX8_node_57 : decode cX8_node 57 = .ok (.l2i, 1) := by decide +kernel
theorem dX8_node_58 : decode cX8_node 58 = .ok (.iastore, 1) := by decide +kernel
theorem dX8_node_59 : decode cX8_node 59 = .ok (.aload_n 0, 1) := by decide +kernel
theorem dX8_node_60 : decode cX8_node 60 = .ok (.dup, 1) := by decide +kernel
theorem dX8_node_61 : decode cX8_node 61 = .ok (.getfield 82, 3) := by decide +kernel
theorem dX8_node_64 : decode cX8_node 64 = .ok (.iconst 1, 1) := by decide +kernel
theorem dX8_node_65 : decode cX8_node 65 = .ok (.iadd, 1) := by decide +kernel
theorem dX8_node_66 : decode cX8_node 66 = .ok (.putfield 82, 3) := by decide +kernel
theorem dX8_node_69 : decode cX8_node 69 = .ok (.aload_n 0, 1) := by decide +kernel
theorem dX8_node_70 : decode cX8_node 70 = .ok (.getfield 82, 3) := by decide +kernel
theorem dX8_node_73 : decode cX8_node 73 = .ok (.iconst 1, 1) := by decide +kernel
theorem dX8_node_74 : decode cX8_node 74 = .ok (.isub, 1) := by decide +kernel
theorem dX8_node_75 : decode cX8_node 75 = .ok (.ireturn, 1) := by decide +kernel
abbrev rm_mM_node : Room := { frames := 1, cells := 0, slots := 0, locals := 25 }
def mp_M_node (u : S4) (x1 : Int64) (x3 : Int64) : Int32 × S4 :=
  if (s4_i u 0) = (8 : Int32) then
    ((-1 : Int32), u)
  else
    let r2 : Int32 := mp_M_isIn u x1 (-100000 : Int64) (100000 : Int64)
    if r2 = (0 : Int32) then
      ((-1 : Int32), u)
    else
      let r4 : Int32 := mp_M_isIn u x3 (-100000 : Int64) (100000 : Int64)
      if r4 = (0 : Int32) then
        ((-1 : Int32), u)
      else
        let u7 : S4 := s4_wa u 0 (s4_i u 0) ((x1).toInt32)
        let u9 : S4 := s4_wa u7 1 (s4_i u7 0) ((x3).toInt32)
        let v10 : Int32 := ((s4_i u9 0) + (1 : Int32))
        let u11 : S4 := s4_si u9 0 v10
        (((s4_i u11 0) - (1 : Int32)), u11)
def mq_M_node (u : S4) (x1 : Int64) (x3 : Int64) : Prop :=
  (¬ (s4_i u 0) = (8 : Int32) →
    let r2 : Int32 := mp_M_isIn u x1 (-100000 : Int64) (100000 : Int64)
    (¬ r2 = (0 : Int32) →
      let r4 : Int32 := mp_M_isIn u x3 (-100000 : Int64) (100000 : Int64)
      (¬ r4 = (0 : Int32) →
        vp_in (s4_i u 0) 8 ∧
        let u7 : S4 := s4_wa u 0 (s4_i u 0) ((x1).toInt32)
        vp_in (s4_i u7 0) 8)))
set_option maxHeartbeats 4000000 in
set_option maxRecDepth 100000 in
theorem mc_M_node (l : Launch) (D : va_G) (a : Nat → Nat) (k3 : K3) (u : S4) (x1 : Int64) (x3 : Int64) (hq : mq_M_node u x1 x3) : MI l D vwCl (ty3 k3) nestW (mC a k3) yX8_node (kX8_node :: tbG) rm_mM_node [.ref (a 0), .long x1, .long x3] u (mp_M_node u x1 x3) := by
  refine mkI (cc := cX8_node) (maxL := 5) (ret := (some .int)) (by decide) rfl (Nat.le_of_ble_eq_true rfl) ?_
  intro p e s m below meth c A ls F hw hl
  generalize hav : ([.ref (a 0), .long x1, .long x3] : List Value).toArray = av at F ⊢
  have hl : lv_has ls 5 [(0, .ref (a 0)), (1, .long x1), (3, .long x3)] := hl
  obtain ⟨hx, hb, hr, hml, hown, hts, hK, hN, hlocks, hA⟩ := id F
  have hown : s.vm.findClass RX8 = some m.cls := hown
  have htG : ∀ w ∈ tbG, w.before av s = true := fun w h => hts w (List.mem_cons_of_mem _ h)
  have f_82 := htG _ tb_514
  have k_92 := htG _ tb_603
  have k_94 := htG _ tb_604
  have f_7 := htG _ tb_515
  have f_13 := htG _ tb_516
  have hgo : ∀ P, mp_M_node u x1 x3 = P → ∀ (H : Heap) (locs : List Loc), wd D vwCl (mC a k3) A s.heap u H locs → W p l e rm_mM_node s m av below meth c H locs 0 0 (QI below D vwCl (mC a k3) A av s P) (F0 m 0 ls []) := by
    intro P hP H locs hw
    refine lv_aload_n hx hb dX8_node_0 rfl (lv_at hl 0 rfl) ?_
    refine va_get (D := D) (ci := 8) (v := .int (s4_i u 0)) (C := RX8) (T := TX8) (N := 28) hx hb htG in_8 hown hK hw.1 0 (mo_0 a k3 u) rfl 0 (by decide) f_82 (fun _ h9 => h9) rfl dX8_node_1 ?_
    refine lv_bipush (v := 8) hx hb dX8_node_4 (by decide) ?_
    refine lv_icmp_eq (tgt := 35) hx hb dX8_node_6 (by decide) (fun c1 => ?_) (fun c1 => ?_)
    · have hP := (if_pos c1).symm.trans hP
      refine lv_iconst (v := -1) hx hb dX8_node_35 (by decide) ?_
      exact ret_i hx hb hr hlocks hw dX8_node_36 hP
    · have hP := (if_neg c1).symm.trans hP
      have hq := hq c1
      refine lv_lload_n hx hb dX8_node_9 rfl (lv_at hl 1 rfl) ?_
      refine lv_ldc2 (v := -100000) hx hb hown k_92 dX8_node_10 ?_
      refine lv_ldc2 (v := 100000) hx hb hown k_94 dX8_node_13 ?_
      let r2 : Int32 := mp_M_isIn u x1 (-100000 : Int64) (100000 : Int64)
      refine call_sir (rest := []) ⟨hx, hb, hml, hown, htG⟩ nestW_ok hK hN hA (mc_M_isIn l D a k3 u x1 (-100000 : Int64) (100000 : Int64)) (cwS 3 htG (tb_S tb_605 tb_606 tb_28 tb_607) rfl rfl rfl (by decide +kernel) ⟨Nat.le_of_ble_eq_true rfl, Nat.le_of_ble_eq_true rfl⟩) hw rfl hl.1 rfl (Nat.le_of_ble_eq_true rfl) dX8_node_16 ⟨Nat.zero_le _, Nat.zero_le _⟩ (fun H locs (hw : wd D vwCl (mC a k3) A s.heap u H locs) => ?_)
      refine lv_if_eq (tgt := 35) hx hb dX8_node_19 (by decide) (fun c3 => ?_) (fun c3 => ?_)
      · have hP := (if_pos c3).symm.trans hP
        refine lv_iconst (v := -1) hx hb dX8_node_35 (by decide) ?_
        exact ret_i hx hb hr hlocks hw dX8_node_36 hP
      · have hP := (if_neg c3).symm.trans hP
        have hq := hq c3
        refine lv_lload_n hx hb dX8_node_22 rfl (lv_at hl 2 rfl) ?_
        refine lv_ldc2 (v := -100000) hx hb hown k_92 dX8_node_23 ?_
        refine lv_ldc2 (v := 100000) hx hb hown k_94 dX8_node_26 ?_
        let r4 : Int32 := mp_M_isIn u x3 (-100000 : Int64) (100000 : Int64)
        refine call_sir (rest := []) ⟨hx, hb, hml, hown, htG⟩ nestW_ok hK hN hA (mc_M_isIn l D a k3 u x3 (-100000 : Int64) (100000 : Int64)) (cwS 3 htG (tb_S tb_605 tb_606 tb_28 tb_607) rfl rfl rfl (by decide +kernel) ⟨Nat.le_of_ble_eq_true rfl, Nat.le_of_ble_eq_true rfl⟩) hw rfl hl.1 rfl (Nat.le_of_ble_eq_true rfl) dX8_node_29 ⟨Nat.zero_le _, Nat.zero_le _⟩ (fun H locs (hw : wd D vwCl (mC a k3) A s.heap u H locs) => ?_)
        refine lv_if_ne (tgt := 37) hx hb dX8_node_32 (by decide) (fun c5 => ?_) (fun c5 => ?_)
        · have hP := (if_neg c5).symm.trans hP
          have hq := hq c5
          refine lv_aload_n hx hb dX8_node_37 rfl (lv_at hl 0 rfl) ?_
          refine va_get (D := D) (ci := 8) (v := .ref (a 1)) (C := RX8) (T := TX8) (N := 28) hx hb htG in_8 hown hK hw.1 0 (mo_0 a k3 u) rfl 1 (by decide) f_7 (fun _ h9 => h9) rfl dX8_node_38 ?_
          refine lv_aload_n hx hb dX8_node_41 rfl (lv_at hl 0 rfl) ?_
          refine va_get (D := D) (ci := 8) (v := .int (s4_i u 0)) (C := RX8) (T := TX8) (N := 28) hx hb htG in_8 hown hK hw.1 0 (mo_0 a k3 u) rfl 0 (by decide) f_82 (fun _ h9 => h9) rfl dX8_node_42 ?_
          refine lv_lload_n hx hb dX8_node_45 rfl (lv_at hl 1 rfl) ?_
          refine lv_l2i hx hb dX8_node_46 rfl ?_
          obtain ⟨h6, hq⟩ := hq
          let u7 : S4 := s4_wa u 0 (s4_i u 0) ((x1).toInt32)
          refine y_iast (t0 := 0) hx hb hK hw 0 (mo_1 a k3 u) (mq_1 a k3 u) rfl h6 dX8_node_47 (fun H locs (hw : wd D vwCl (mC a k3) A s.heap u7 H locs) => ?_)
          refine lv_aload_n hx hb dX8_node_48 rfl (lv_at hl 0 rfl) ?_
          refine va_get (D := D) (ci := 8) (v := .ref (a 2)) (C := RX8) (T := TX8) (N := 28) hx hb htG in_8 hown hK hw.1 0 (mo_0 a k3 u7) rfl 2 (by decide) f_13 (fun _ h9 => h9) rfl dX8_node_49 ?_
          refine lv_aload_n hx hb dX8_node_52 rfl (lv_at hl 0 rfl) ?_
          refine va_get (D := D) (ci := 8) (v := .int (s4_i u7 0)) (C := RX8) (T := TX8) (N := 28) hx hb htG in_8 hown hK hw.1 0 (mo_0 a k3 u7) rfl 0 (by decide) f_82 (fun _ h9 => h9) rfl dX8_node_53 ?_
          refine lv_lload_n hx hb dX8_node_56 rfl (lv_at hl 2 rfl) ?_
          refine lv_l2i hx hb dX8_node_57 rfl ?_
          have h8 := hq
          let u9 : S4 := s4_wa u7 1 (s4_i u7 0) ((x3).toInt32)
          refine y_iast (t0 := 0) hx hb hK hw 1 (mo_2 a k3 u7) (mq_2 a k3 u7) rfl h8 dX8_node_58 (fun H locs (hw : wd D vwCl (mC a k3) A s.heap u9 H locs) => ?_)
          refine lv_aload_n hx hb dX8_node_59 rfl (lv_at hl 0 rfl) ?_
          refine lv_dup hx hb dX8_node_60 rfl ?_
          refine va_get (D := D) (ci := 8) (v := .int (s4_i u9 0)) (C := RX8) (T := TX8) (N := 28) hx hb htG in_8 hown hK hw.1 0 (mo_0 a k3 u9) rfl 0 (by decide) f_82 (fun _ h9 => h9) rfl dX8_node_61 ?_
          refine lv_iconst (v := 1) hx hb dX8_node_64 (by decide) ?_
          refine lv_iadd hx hb dX8_node_65 ?_
          let v10 : Int32 := ((s4_i u9 0) + (1 : Int32))
          let u11 : S4 := s4_si u9 0 v10
          refine y_puti hx hb htG in_8 tyX8 tyX8_ok nX8 hown hK hw 0 (mo_0 a k3 u9) rfl 0 (by decide) f_82 (fun _ h9 => h9) rfl (by decide +kernel) (Nat.le_of_ble_eq_true rfl) (mt_i0 a k3 u9 v10) dX8_node_66 (fun H locs (hw : wd D vwCl (mC a k3) A s.heap u11 H locs) => ?_)
          refine lv_aload_n hx hb dX8_node_69 rfl (lv_at hl 0 rfl) ?_
          refine va_get (D := D) (ci := 8) (v := .int (s4_i u11 0)) (C := RX8) (T := TX8) (N := 28) hx hb htG in_8 hown hK hw.1 0 (mo_0 a k3 u11) rfl 0 (by decide) f_82 (fun _ h9 => h9) rfl dX8_node_70 ?_
          refine lv_iconst (v := 1) hx hb dX8_node_73 (by decide) ?_
          refine lv_isub hx hb dX8_node_74 ?_
          exact ret_i hx hb hr hlocks hw dX8_node_75 hP
        · have hP := (if_pos c5).symm.trans hP
          refine lv_iconst (v := -1) hx hb dX8_node_35 (by decide) ?_
          exact ret_i hx hb hr hlocks hw dX8_node_36 hP
  exact hgo _ rfl s.heap [] hw
theorem dX8_street_0 : decode cX8_street 0 = .ok (.aload_n 0, 1) := by decide +kernel
theorem dX8_street_1 : decode cX8_street 1 = .ok (.getfield 85, 3) := by decide +kernel
theorem dX8_street_4 : decode cX8_street 4 = .ok (.bipush 12, 2) := by decide +kernel
theorem dX8_street_6 : decode cX8_street 6 = .ok (.if_icmp .eq 49, 3) := by decide +kernel
theorem dX8_street_9 : decode cX8_street 9 = .ok (.aload_n 0, 1) := by decide +kernel
theorem dX8_street_10 : decode cX8_street 10 = .ok (.iload_n 1, 1) := by decide +kernel
theorem dX8_street_11 : decode cX8_street 11 = .ok (.invokevirtual 100, 3) := by decide +kernel
theorem dX8_street_14 : decode cX8_street 14 = .ok (.ifCond .eq 41, 3) := by decide +kernel
theorem dX8_street_17 : decode cX8_street 17 = .ok (.aload_n 0, 1) := by decide +kernel
theorem dX8_street_18 : decode cX8_street 18 = .ok (.iload_n 2, 1) := by decide +kernel
theorem dX8_street_19 : decode cX8_street 19 = .ok (.invokevirtual 100, 3) := by decide +kernel
theorem dX8_street_22 : decode cX8_street 22 = .ok (.ifCond .eq 33, 3) := by decide +kernel
theorem dX8_street_25 : decode cX8_street 25 = .ok (.iload_n 1, 1) := by decide +kernel
theorem dX8_street_26 : decode cX8_street 26 = .ok (.iload_n 2, 1) := by decide +kernel
theorem dX8_street_27 : decode cX8_street 27 = .ok (.if_icmp .eq 28, 3) := by decide +kernel
theorem dX8_street_30 : decode cX8_street 30 = .ok (.iload_n 3, 1) := by decide +kernel
theorem dX8_street_31 : decode cX8_street 31 = .ok (.i2l, 1) := by decide +kernel
theorem dX8_street_32 : decode cX8_street 32 = .ok (.lconst 1, 1) := by decide +kernel
theorem dX8_street_33 : decode cX8_street 33 = .ok (.ldc2_w 103, 3) := by decide +kernel
theorem dX8_street_36 : decode cX8_street 36 = .ok (.invokestatic 96, 3) := by decide +kernel
theorem dX8_street_39 : decode cX8_street 39 = .ok (.ifCond .eq 16, 3) := by decide +kernel
theorem dX8_street_42 : decode cX8_street 42 = .ok (.iload 4, 2) := by decide +kernel
theorem dX8_street_44 : decode cX8_street 44 = .ok (.i2l, 1) := by decide +kernel
theorem dX8_street_45 : decode cX8_street 45 = .ok (.lconst 0, 1) := by decide +kernel
theorem dX8_street_46 : decode cX8_street 46 = .ok (.ldc2_w 105, 3) := by decide +kernel
theorem dX8_street_49 : decode cX8_street 49 = .ok (.invokestatic 96, 3) := by decide +kernel
theorem dX8_street_52 : decode cX8_street 52 = .ok (.ifCond .ne 5, 3) := by decide +kernel
theorem dX8_street_55 : decode cX8_street 55 = .ok (.iconst (-1), 1) := by decide +kernel
theorem dX8_street_56 : decode cX8_street 56 = .ok (.ireturn, 1) := by decide +kernel
theorem dX8_street_57 : decode cX8_street 57 = .ok (.aload_n 0, 1) := by decide +kernel
theorem dX8_street_58 : decode cX8_street 58 = .ok (.getfield 20, 3) := by decide +kernel
theorem dX8_street_61 : decode cX8_street 61 = .ok (.aload_n 0, 1) := by decide +kernel
theorem dX8_street_62 : decode cX8_street 62 = .ok (.getfield 85, 3) := by decide +kernel
theorem dX8_street_65 : decode cX8_street 65 = .ok (.iload_n 1, 1) := by decide +kernel
theorem dX8_street_66 : decode cX8_street 66 = .ok (.iastore, 1) := by decide +kernel
theorem dX8_street_67 : decode cX8_street 67 = .ok (.aload_n 0, 1) := by decide +kernel
theorem dX8_street_68 : decode cX8_street 68 = .ok (.getfield 23, 3) := by decide +kernel
theorem dX8_street_71 : decode cX8_street 71 = .ok (.aload_n 0, 1) := by decide +kernel
theorem dX8_street_72 : decode cX8_street 72 = .ok (.getfield 85, 3) := by decide +kernel
theorem dX8_street_75 : decode cX8_street 75 = .ok (.iload_n 2, 1) := by decide +kernel
theorem dX8_street_76 : decode cX8_street 76 = .ok (.iastore, 1) := by decide +kernel
theorem dX8_street_77 : decode cX8_street 77 = .ok (.aload_n 0, 1) := by decide +kernel
theorem dX8_street_78 : decode cX8_street 78 = .ok (.getfield 26, 3) := by decide +kernel
theorem dX8_street_81 : decode cX8_street 81 = .ok (.aload_n 0, 1) := by decide +kernel
theorem dX8_street_82 : decode cX8_street 82 = .ok (.getfield 85, 3) := by decide +kernel
theorem dX8_street_85 : decode cX8_street 85 = .ok (.iload_n 3, 1) := by decide +kernel
theorem dX8_street_86 : decode cX8_street 86 = .ok (.iastore, 1) := by decide +kernel
theorem dX8_street_87 : decode cX8_street 87 = .ok (.aload_n 0, 1) := by decide +kernel
theorem dX8_street_88 : decode cX8_street 88 = .ok (.getfield 29, 3) := by decide +kernel
theorem dX8_street_91 : decode cX8_street 91 = .ok (.aload_n 0, 1) := by decide +kernel
theorem dX8_street_92 : decode cX8_street 92 = .ok (.getfield 85, 3) := by decide +kernel
theorem dX8_street_95 : decode cX8_street 95 = .ok (.iload 4, 2) := by decide +kernel
theorem dX8_street_97 : decode cX8_street 97 = .ok (.iastore, 1) := by decide +kernel
theorem dX8_street_98 : decode cX8_street 98 = .ok (.aload_n 0, 1) := by decide +kernel
theorem dX8_street_99 : decode cX8_street 99 = .ok (.getfield 32, 3) := by decide +kernel
theorem dX8_street_102 : decode cX8_street 102 = .ok (.aload_n 0, 1) := by decide +kernel
theorem dX8_street_103 : decode cX8_street 103 = .ok (.getfield 85, 3) := by decide +kernel
theorem dX8_street_106 : decode cX8_street 106 = .ok (.ldc2_w 107, 3) := by decide +kernel
theorem dX8_street_109 : decode cX8_street 109 = .ok (.lastore, 1) := by decide +kernel
theorem dX8_street_110 : decode cX8_street 110 = .ok (.aload_n 0, 1) := by decide +kernel
theorem dX8_street_111 : decode cX8_street 111 = .ok (.getfield 36, 3) := by decide +kernel
theorem dX8_street_114 : decode cX8_street 114 = .ok (.aload_n 0, 1) := by decide +kernel
theorem dX8_street_115 : decode cX8_street 115 = .ok (.getfield 85, 3) := by decide +kernel
theorem dX8_street_118 : decode cX8_street 118 = .ok (.ldc2_w 107, 3) := by decide +kernel
theorem dX8_street_121 : decode cX8_street 121 = .ok (.lastore, 1) := by decide +kernel
theorem dX8_street_122 : decode cX8_street 122 = .ok (.aload_n 0, 1) := by decide +kernel
theorem dX8_street_123 : decode cX8_street 123 = .ok (.getfield 42, 3) := by decide +kernel
theorem dX8_street_126 : decode cX8_street 126 = .ok (.aload_n 0, 1) := by decide +kernel
theorem dX8_street_127 : decode cX8_street 127 = .ok (.getfield 85, 3) := by decide +kernel
theorem dX8_street_130 : decode cX8_street 130 = .ok (.ldc 109, 2) := by decide +kernel
theorem dX8_street_132 : decode cX8_street 132 = .ok (.iastore, 1) := by decide +kernel
theorem dX8_street_133 : decode cX8_street 133 = .ok (.aload_n 0, 1) := by decide +kernel
theorem dX8_street_134 : decode cX8_street 134 = .ok (.dup, 1) := by decide +kernel
theorem dX8_street_135 : decode cX8_street 135 = .ok (.getfield 85, 3) := by decide +kernel
theorem dX8_street_138 : decode cX8_street 138 = .ok (.iconst 1, 1) := by decide +kernel
theorem dX8_street_139 : decode cX8_street 139 = .ok (.iadd, 1) := by decide +kernel
theorem dX8_street_140 : decode cX8_street 140 = .ok (.putfield 85, 3) := by decide +kernel
theorem dX8_street_143 : decode cX8_street 143 = .ok (.aload_n 0, 1) := by decide +kernel
theorem dX8_street_144 : decode cX8_street 144 = .ok (.getfield 85, 3) := by decide +kernel
theorem dX8_street_147 : decode cX8_street 147 = .ok (.iconst 1, 1) := by decide +kernel
theorem dX8_street_148 : decode cX8_street 148 = .ok (.isub, 1) := by decide +kernel
theorem dX8_street_149 : decode cX8_street 149 = .ok (.ireturn, 1) := by decide +kernel
abbrev rm_mM_street : Room := { frames := 1, cells := 0, slots := 0, locals := 25 }
def mp_M_street (u : S4) (x1 : Int32) (x2 : Int32) (x3 : Int32) (x4 : Int32) : Int32 × S4 :=
  if (s4_i u 1) = (12 : Int32) then
    ((-1 : Int32), u)
  else
    let r2 : Int32 := mp_M_isNode u x1
    if r2 = (0 : Int32) then
      ((-1 : Int32), u)
    else
      let r4 : Int32 := mp_M_isNode u x2
      if r4 = (0 : Int32) then
        ((-1 : Int32), u)
      else
        if x1 = x2 then
          ((-1 : Int32), u)
        else
          let r7 : Int32 := mp_M_isIn u (x3.toInt64) (1 : Int64) (10000 : Int64)
          if r7 = (0 : Int32) then
            ((-1 : Int32), u)
          else
            let r9 : Int32 := mp_M_isIn u (x4.toInt64) (0 : Int64) (3 : Int64)
            if r9 = (0 : Int32) then
              ((-1 : Int32), u)
            else
              let u12 : S4 := s4_wa u 3 (s4_i u 1) x1
              let u14 : S4 := s4_wa u12 4 (s4_i u12 1) x2
              let u16 : S4 := s4_wa u14 5 (s4_i u14 1) x3
              let u18 : S4 := s4_wa u16 6 (s4_i u16 1) x4
              let u20 : S4 := s4_wb u18 0 (s4_i u18 1) (1000000 : Int64)
              let u22 : S4 := s4_wb u20 1 (s4_i u20 1) (1000000 : Int64)
              let u24 : S4 := s4_wa u22 8 (s4_i u22 1) (86399 : Int32)
              let v25 : Int32 := ((s4_i u24 1) + (1 : Int32))
              let u26 : S4 := s4_si u24 1 v25
              (((s4_i u26 1) - (1 : Int32)), u26)
def mq_M_street (u : S4) (x1 : Int32) (x2 : Int32) (x3 : Int32) (x4 : Int32) : Prop :=
  (¬ (s4_i u 1) = (12 : Int32) →
    let r2 : Int32 := mp_M_isNode u x1
    (¬ r2 = (0 : Int32) →
      let r4 : Int32 := mp_M_isNode u x2
      (¬ r4 = (0 : Int32) →
        (¬ x1 = x2 →
          let r7 : Int32 := mp_M_isIn u (x3.toInt64) (1 : Int64) (10000 : Int64)
          (¬ r7 = (0 : Int32) →
            let r9 : Int32 := mp_M_isIn u (x4.toInt64) (0 : Int64) (3 : Int64)
            (¬ r9 = (0 : Int32) →
              vp_in (s4_i u 1) 12 ∧
              let u12 : S4 := s4_wa u 3 (s4_i u 1) x1
              vp_in (s4_i u12 1) 12 ∧
              let u14 : S4 := s4_wa u12 4 (s4_i u12 1) x2
              vp_in (s4_i u14 1) 12 ∧
              let u16 : S4 := s4_wa u14 5 (s4_i u14 1) x3
              vp_in (s4_i u16 1) 12 ∧
              let u18 : S4 := s4_wa u16 6 (s4_i u16 1) x4
              vp_in (s4_i u18 1) 12 ∧
              let u20 : S4 := s4_wb u18 0 (s4_i u18 1) (1000000 : Int64)
              vp_in (s4_i u20 1) 12 ∧
              let u22 : S4 := s4_wb u20 1 (s4_i u20 1) (1000000 : Int64)
              vp_in (s4_i u22 1) 12))))))
set_option maxHeartbeats 4000000 in
set_option maxRecDepth 100000 in
theorem mc_M_street (l : Launch) (D : va_G) (a : Nat → Nat) (k3 : K3) (u : S4) (x1 : Int32) (x2 : Int32) (x3 : Int32) (x4 : Int32) (hq : mq_M_street u x1 x2 x3 x4) : MI l D vwCl (ty3 k3) nestW (mC a k3) yX8_street (kX8_street :: tbG) rm_mM_street [.ref (a 0), .int x1, .int x2, .int x3, .int x4] u (mp_M_street u x1 x2 x3 x4) := by
  refine mkI (cc := cX8_street) (maxL := 5) (ret := (some .int)) (by decide) rfl (Nat.le_of_ble_eq_true rfl) ?_
  intro p e s m below meth c A ls F hw hl
  generalize hav : ([.ref (a 0), .int x1, .int x2, .int x3, .int x4] : List Value).toArray = av at F ⊢
  have hl : lv_has ls 5 [(0, .ref (a 0)), (1, .int x1), (2, .int x2), (3, .int x3), (4, .int x4)] := hl
  obtain ⟨hx, hb, hr, hml, hown, hts, hK, hN, hlocks, hA⟩ := id F
  have hown : s.vm.findClass RX8 = some m.cls := hown
  have htG : ∀ w ∈ tbG, w.before av s = true := fun w h => hts w (List.mem_cons_of_mem _ h)
  have f_85 := htG _ tb_518
  have k_103 := htG _ tb_616
  have k_105 := htG _ tb_617
  have f_20 := htG _ tb_519
  have f_23 := htG _ tb_520
  have f_26 := htG _ tb_521
  have f_29 := htG _ tb_522
  have f_32 := htG _ tb_523
  have k_107 := htG _ tb_618
  have f_36 := htG _ tb_524
  have f_42 := htG _ tb_528
  have k_109 := htG _ tb_619
  have hgo : ∀ P, mp_M_street u x1 x2 x3 x4 = P → ∀ (H : Heap) (locs : List Loc), wd D vwCl (mC a k3) A s.heap u H locs → W p l e rm_mM_street s m av below meth c H locs 0 0 (QI below D vwCl (mC a k3) A av s P) (F0 m 0 ls []) := by
    intro P hP H locs hw
    refine lv_aload_n hx hb dX8_street_0 rfl (lv_at hl 0 rfl) ?_
    refine va_get (D := D) (ci := 8) (v := .int (s4_i u 1)) (C := RX8) (T := TX8) (N := 28) hx hb htG in_8 hown hK hw.1 0 (mo_0 a k3 u) rfl 4 (by decide) f_85 (fun _ h9 => h9) rfl dX8_street_1 ?_
    refine lv_bipush (v := 12) hx hb dX8_street_4 (by decide) ?_
    refine lv_icmp_eq (tgt := 55) hx hb dX8_street_6 (by decide) (fun c1 => ?_) (fun c1 => ?_)
    · have hP := (if_pos c1).symm.trans hP
      refine lv_iconst (v := -1) hx hb dX8_street_55 (by decide) ?_
      exact ret_i hx hb hr hlocks hw dX8_street_56 hP
    · have hP := (if_neg c1).symm.trans hP
      have hq := hq c1
      refine lv_aload_n hx hb dX8_street_9 rfl (lv_at hl 0 rfl) ?_
      refine lv_iload_n hx hb dX8_street_10 rfl (lv_at hl 1 rfl) ?_
      let r2 : Int32 := mp_M_isNode u x1
      refine call_vir (rest := []) ⟨hx, hb, hml, hown, htG⟩ nestW_ok hK hN hA (mc_M_isNode l D a k3 u x1) (cwV 1 htG (tb_V tb_612 tb_614 tb_9 tb_28 tb_615) rfl rfl rfl (by decide +kernel) ⟨Nat.le_of_ble_eq_true rfl, Nat.le_of_ble_eq_true rfl⟩) (ci := 8) rfl (mo_0 a k3 u) rfl hw rfl hl.1 rfl (Nat.le_of_ble_eq_true rfl) dX8_street_11 ⟨Nat.zero_le _, Nat.zero_le _⟩ (fun H locs (hw : wd D vwCl (mC a k3) A s.heap u H locs) => ?_)
      refine lv_if_eq (tgt := 55) hx hb dX8_street_14 (by decide) (fun c3 => ?_) (fun c3 => ?_)
      · have hP := (if_pos c3).symm.trans hP
        refine lv_iconst (v := -1) hx hb dX8_street_55 (by decide) ?_
        exact ret_i hx hb hr hlocks hw dX8_street_56 hP
      · have hP := (if_neg c3).symm.trans hP
        have hq := hq c3
        refine lv_aload_n hx hb dX8_street_17 rfl (lv_at hl 0 rfl) ?_
        refine lv_iload_n hx hb dX8_street_18 rfl (lv_at hl 2 rfl) ?_
        let r4 : Int32 := mp_M_isNode u x2
        refine call_vir (rest := []) ⟨hx, hb, hml, hown, htG⟩ nestW_ok hK hN hA (mc_M_isNode l D a k3 u x2) (cwV 1 htG (tb_V tb_612 tb_614 tb_9 tb_28 tb_615) rfl rfl rfl (by decide +kernel) ⟨Nat.le_of_ble_eq_true rfl, Nat.le_of_ble_eq_true rfl⟩) (ci := 8) rfl (mo_0 a k3 u) rfl hw rfl hl.1 rfl (Nat.le_of_ble_eq_true rfl) dX8_street_19 ⟨Nat.zero_le _, Nat.zero_le _⟩ (fun H locs (hw : wd D vwCl (mC a k3) A s.heap u H locs) => ?_)
        refine lv_if_eq (tgt := 55) hx hb dX8_street_22 (by decide) (fun c5 => ?_) (fun c5 => ?_)
        · have hP := (if_pos c5).symm.trans hP
          refine lv_iconst (v := -1) hx hb dX8_street_55 (by decide) ?_
          exact ret_i hx hb hr hlocks hw dX8_street_56 hP
        · have hP := (if_neg c5).symm.trans hP
          have hq := hq c5
          refine lv_iload_n hx hb dX8_street_25 rfl (lv_at hl 1 rfl) ?_
          refine lv_iload_n hx hb dX8_street_26 rfl (lv_at hl 2 rfl) ?_
          refine lv_icmp_eq (tgt := 55) hx hb dX8_street_27 (by decide) (fun c6 => ?_) (fun c6 => ?_)
          · have hP := (if_pos c6).symm.trans hP
            refine lv_iconst (v := -1) hx hb dX8_street_55 (by decide) ?_
            exact ret_i hx hb hr hlocks hw dX8_street_56 hP
          · have hP := (if_neg c6).symm.trans hP
            have hq := hq c6
            refine lv_iload_n hx hb dX8_street_30 rfl (lv_at hl 3 rfl) ?_
            refine lv_i2l hx hb dX8_street_31 rfl ?_
            refine lv_lconst (v := 1) hx hb dX8_street_32 (by decide) ?_
            refine lv_ldc2 (v := 10000) hx hb hown k_103 dX8_street_33 ?_
            let r7 : Int32 := mp_M_isIn u (x3.toInt64) (1 : Int64) (10000 : Int64)
            refine call_sir (rest := []) ⟨hx, hb, hml, hown, htG⟩ nestW_ok hK hN hA (mc_M_isIn l D a k3 u (x3.toInt64) (1 : Int64) (10000 : Int64)) (cwS 3 htG (tb_S tb_605 tb_606 tb_28 tb_607) rfl rfl rfl (by decide +kernel) ⟨Nat.le_of_ble_eq_true rfl, Nat.le_of_ble_eq_true rfl⟩) hw rfl hl.1 rfl (Nat.le_of_ble_eq_true rfl) dX8_street_36 ⟨Nat.zero_le _, Nat.zero_le _⟩ (fun H locs (hw : wd D vwCl (mC a k3) A s.heap u H locs) => ?_)
            refine lv_if_eq (tgt := 55) hx hb dX8_street_39 (by decide) (fun c8 => ?_) (fun c8 => ?_)
            · have hP := (if_pos c8).symm.trans hP
              refine lv_iconst (v := -1) hx hb dX8_street_55 (by decide) ?_
              exact ret_i hx hb hr hlocks hw dX8_street_56 hP
            · have hP := (if_neg c8).symm.trans hP
              have hq := hq c8
              refine lv_iload hx hb dX8_street_42 (lv_at hl 4 rfl) ?_
              refine lv_i2l hx hb dX8_street_44 rfl ?_
              refine lv_lconst (v := 0) hx hb dX8_street_45 (by decide) ?_
              refine lv_ldc2 (v := 3) hx hb hown k_105 dX8_street_46 ?_
              let r9 : Int32 := mp_M_isIn u (x4.toInt64) (0 : Int64) (3 : Int64)
              refine call_sir (rest := []) ⟨hx, hb, hml, hown, htG⟩ nestW_ok hK hN hA (mc_M_isIn l D a k3 u (x4.toInt64) (0 : Int64) (3 : Int64)) (cwS 3 htG (tb_S tb_605 tb_606 tb_28 tb_607) rfl rfl rfl (by decide +kernel) ⟨Nat.le_of_ble_eq_true rfl, Nat.le_of_ble_eq_true rfl⟩) hw rfl hl.1 rfl (Nat.le_of_ble_eq_true rfl) dX8_street_49 ⟨Nat.zero_le _, Nat.zero_le _⟩ (fun H locs (hw : wd D vwCl (mC a k3) A s.heap u H locs) => ?_)
              refine lv_if_ne (tgt := 57) hx hb dX8_street_52 (by decide) (fun c10 => ?_) (fun c10 => ?_)
              · have hP := (if_neg c10).symm.trans hP
                have hq := hq c10
                refine lv_aload_n hx hb dX8_street_57 rfl (lv_at hl 0 rfl) ?_
                refine va_get (D := D) (ci := 8) (v := .ref (a 4)) (C := RX8) (T := TX8) (N := 28) hx hb htG in_8 hown hK hw.1 0 (mo_0 a k3 u) rfl 5 (by decide) f_20 (fun _ h9 => h9) rfl dX8_street_58 ?_
                refine lv_aload_n hx hb dX8_street_61 rfl (lv_at hl 0 rfl) ?_
                refine va_get (D := D) (ci := 8) (v := .int (s4_i u 1)) (C := RX8) (T := TX8) (N := 28) hx hb htG in_8 hown hK hw.1 0 (mo_0 a k3 u) rfl 4 (by decide) f_85 (fun _ h9 => h9) rfl dX8_street_62 ?_
                refine lv_iload_n hx hb dX8_street_65 rfl (lv_at hl 1 rfl) ?_
                obtain ⟨h11, hq⟩ := hq
                let u12 : S4 := s4_wa u 3 (s4_i u 1) x1
                refine y_iast (t0 := 0) hx hb hK hw 3 (mo_4 a k3 u) (mq_4 a k3 u) rfl h11 dX8_street_66 (fun H locs (hw : wd D vwCl (mC a k3) A s.heap u12 H locs) => ?_)
                refine lv_aload_n hx hb dX8_street_67 rfl (lv_at hl 0 rfl) ?_
                refine va_get (D := D) (ci := 8) (v := .ref (a 5)) (C := RX8) (T := TX8) (N := 28) hx hb htG in_8 hown hK hw.1 0 (mo_0 a k3 u12) rfl 6 (by decide) f_23 (fun _ h9 => h9) rfl dX8_street_68 ?_
                refine lv_aload_n hx hb dX8_street_71 rfl (lv_at hl 0 rfl) ?_
                refine va_get (D := D) (ci := 8) (v := .int (s4_i u12 1)) (C := RX8) (T := TX8) (N := 28) hx hb htG in_8 hown hK hw.1 0 (mo_0 a k3 u12) rfl 4 (by decide) f_85 (fun _ h9 => h9) rfl dX8_street_72 ?_
                refine lv_iload_n hx hb dX8_street_75 rfl (lv_at hl 2 rfl) ?_
                obtain ⟨h13, hq⟩ := hq
                let u14 : S4 := s4_wa u12 4 (s4_i u12 1) x2
                refine y_iast (t0 := 0) hx hb hK hw 4 (mo_5 a k3 u12) (mq_5 a k3 u12) rfl h13 dX8_street_76 (fun H locs (hw : wd D vwCl (mC a k3) A s.heap u14 H locs) => ?_)
                refine lv_aload_n hx hb dX8_street_77 rfl (lv_at hl 0 rfl) ?_
                refine va_get (D := D) (ci := 8) (v := .ref (a 6)) (C := RX8) (T := TX8) (N := 28) hx hb htG in_8 hown hK hw.1 0 (mo_0 a k3 u14) rfl 7 (by decide) f_26 (fun _ h9 => h9) rfl dX8_street_78 ?_
                refine lv_aload_n hx hb dX8_street_81 rfl (lv_at hl 0 rfl) ?_
                refine va_get (D := D) (ci := 8) (v := .int (s4_i u14 1)) (C := RX8) (T := TX8) (N := 28) hx hb htG in_8 hown hK hw.1 0 (mo_0 a k3 u14) rfl 4 (by decide) f_85 (fun _ h9 => h9) rfl dX8_street_82 ?_
                refine lv_iload_n hx hb dX8_street_85 rfl (lv_at hl 3 rfl) ?_
                obtain ⟨h15, hq⟩ := hq
                let u16 : S4 := s4_wa u14 5 (s4_i u14 1) x3
                refine y_iast (t0 := 0) hx hb hK hw 5 (mo_6 a k3 u14) (mq_6 a k3 u14) rfl h15 dX8_street_86 (fun H locs (hw : wd D vwCl (mC a k3) A s.heap u16 H locs) => ?_)
                refine lv_aload_n hx hb dX8_street_87 rfl (lv_at hl 0 rfl) ?_
                refine va_get (D := D) (ci := 8) (v := .ref (a 7)) (C := RX8) (T := TX8) (N := 28) hx hb htG in_8 hown hK hw.1 0 (mo_0 a k3 u16) rfl 8 (by decide) f_29 (fun _ h9 => h9) rfl dX8_street_88 ?_
                refine lv_aload_n hx hb dX8_street_91 rfl (lv_at hl 0 rfl) ?_
                refine va_get (D := D) (ci := 8) (v := .int (s4_i u16 1)) (C := RX8) (T := TX8) (N := 28) hx hb htG in_8 hown hK hw.1 0 (mo_0 a k3 u16) rfl 4 (by decide) f_85 (fun _ h9 => h9) rfl dX8_street_92 ?_
                refine lv_iload hx hb dX8_street_95 (lv_at hl 4 rfl) ?_
                obtain ⟨h17, hq⟩ := hq
                let u18 : S4 := s4_wa u16 6 (s4_i u16 1) x4
                refine y_iast (t0 := 0) hx hb hK hw 6 (mo_7 a k3 u16) (mq_7 a k3 u16) rfl h17 dX8_street_97 (fun H locs (hw : wd D vwCl (mC a k3) A s.heap u18 H locs) => ?_)
                refine lv_aload_n hx hb dX8_street_98 rfl (lv_at hl 0 rfl) ?_
                refine va_get (D := D) (ci := 8) (v := .ref (a 8)) (C := RX8) (T := TX8) (N := 28) hx hb htG in_8 hown hK hw.1 0 (mo_0 a k3 u18) rfl 9 (by decide) f_32 (fun _ h9 => h9) rfl dX8_street_99 ?_
                refine lv_aload_n hx hb dX8_street_102 rfl (lv_at hl 0 rfl) ?_
                refine va_get (D := D) (ci := 8) (v := .int (s4_i u18 1)) (C := RX8) (T := TX8) (N := 28) hx hb htG in_8 hown hK hw.1 0 (mo_0 a k3 u18) rfl 4 (by decide) f_85 (fun _ h9 => h9) rfl dX8_street_103 ?_
                refine lv_ldc2 (v := 1000000) hx hb hown k_107 dX8_street_106 ?_
                obtain ⟨h19, hq⟩ := hq
                let u20 : S4 := s4_wb u18 0 (s4_i u18 1) (1000000 : Int64)
                refine y_last (t0 := 1) hx hb hK hw 0 (mo_8 a k3 u18) (mq_8 a k3 u18) rfl h19 dX8_street_109 (fun H locs (hw : wd D vwCl (mC a k3) A s.heap u20 H locs) => ?_)
                refine lv_aload_n hx hb dX8_street_110 rfl (lv_at hl 0 rfl) ?_
                refine va_get (D := D) (ci := 8) (v := .ref (a 9)) (C := RX8) (T := TX8) (N := 28) hx hb htG in_8 hown hK hw.1 0 (mo_0 a k3 u20) rfl 10 (by decide) f_36 (fun _ h9 => h9) rfl dX8_street_111 ?_
                refine lv_aload_n hx hb dX8_street_114 rfl (lv_at hl 0 rfl) ?_
                refine va_get (D := D) (ci := 8) (v := .int (s4_i u20 1)) (C := RX8) (T := TX8) (N := 28) hx hb htG in_8 hown hK hw.1 0 (mo_0 a k3 u20) rfl 4 (by decide) f_85 (fun _ h9 => h9) rfl dX8_street_115 ?_
                refine lv_ldc2 (v := 1000000) hx hb hown k_107 dX8_street_118 ?_
                obtain ⟨h21, hq⟩ := hq
                let u22 : S4 := s4_wb u20 1 (s4_i u20 1) (1000000 : Int64)
                refine y_last (t0 := 1) hx hb hK hw 1 (mo_9 a k3 u20) (mq_9 a k3 u20) rfl h21 dX8_street_121 (fun H locs (hw : wd D vwCl (mC a k3) A s.heap u22 H locs) => ?_)
                refine lv_aload_n hx hb dX8_street_122 rfl (lv_at hl 0 rfl) ?_
                refine va_get (D := D) (ci := 8) (v := .ref (a 11)) (C := RX8) (T := TX8) (N := 28) hx hb htG in_8 hown hK hw.1 0 (mo_0 a k3 u22) rfl 14 (by decide) f_42 (fun _ h9 => h9) rfl dX8_street_123 ?_
                refine lv_aload_n hx hb dX8_street_126 rfl (lv_at hl 0 rfl) ?_
                refine va_get (D := D) (ci := 8) (v := .int (s4_i u22 1)) (C := RX8) (T := TX8) (N := 28) hx hb htG in_8 hown hK hw.1 0 (mo_0 a k3 u22) rfl 4 (by decide) f_85 (fun _ h9 => h9) rfl dX8_street_127 ?_
                refine lv_ldc (v := 86399) hx hb hown k_109 dX8_street_130 ?_
                have h23 := hq
                let u24 : S4 := s4_wa u22 8 (s4_i u22 1) (86399 : Int32)
                refine y_iast (t0 := 0) hx hb hK hw 8 (mo_11 a k3 u22) (mq_11 a k3 u22) rfl h23 dX8_street_132 (fun H locs (hw : wd D vwCl (mC a k3) A s.heap u24 H locs) => ?_)
                refine lv_aload_n hx hb dX8_street_133 rfl (lv_at hl 0 rfl) ?_
                refine lv_dup hx hb dX8_street_134 rfl ?_
                refine va_get (D := D) (ci := 8) (v := .int (s4_i u24 1)) (C := RX8) (T := TX8) (N := 28) hx hb htG in_8 hown hK hw.1 0 (mo_0 a k3 u24) rfl 4 (by decide) f_85 (fun _ h9 => h9) rfl dX8_street_135 ?_
                refine lv_iconst (v := 1) hx hb dX8_street_138 (by decide) ?_
                refine lv_iadd hx hb dX8_street_139 ?_
                let v25 : Int32 := ((s4_i u24 1) + (1 : Int32))
                let u26 : S4 := s4_si u24 1 v25
                refine y_puti hx hb htG in_8 tyX8 tyX8_ok nX8 hown hK hw 1 (mo_0 a k3 u24) rfl 4 (by decide) f_85 (fun _ h9 => h9) rfl (by decide +kernel) (Nat.le_of_ble_eq_true rfl) (mt_i1 a k3 u24 v25) dX8_street_140 (fun H locs (hw : wd D vwCl (mC a k3) A s.heap u26 H locs) => ?_)
                refine lv_aload_n hx hb dX8_street_143 rfl (lv_at hl 0 rfl) ?_
                refine va_get (D := D) (ci := 8) (v := .int (s4_i u26 1)) (C := RX8) (T := TX8) (N := 28) hx hb htG in_8 hown hK hw.1 0 (mo_0 a k3 u26) rfl 4 (by decide) f_85 (fun _ h9 => h9) rfl dX8_street_144 ?_
                refine lv_iconst (v := 1) hx hb dX8_street_147 (by decide) ?_
                refine lv_isub hx hb dX8_street_148 ?_
                exact ret_i hx hb hr hlocks hw dX8_street_149 hP
              · have hP := (if_pos c10).symm.trans hP
                refine lv_iconst (v := -1) hx hb dX8_street_55 (by decide) ?_
                exact ret_i hx hb hr hlocks hw dX8_street_56 hP
  exact hgo _ rfl s.heap [] hw
theorem dX8_turn_0 : decode cX8_turn 0 = .ok (.aload_n 0, 1) := by decide +kernel
theorem dX8_turn_1 : decode cX8_turn 1 = .ok (.iload_n 1, 1) := by decide +kernel
theorem dX8_turn_2 : decode cX8_turn 2 = .ok (.invokevirtual 88, 3) := by decide +kernel
theorem dX8_turn_5 : decode cX8_turn 5 = .ok (.ifCond .eq 28, 3) := by decide +kernel
theorem dX8_turn_8 : decode cX8_turn 8 = .ok (.aload_n 0, 1) := by decide +kernel
theorem dX8_turn_9 : decode cX8_turn 9 = .ok (.iload_n 2, 1) := by decide +kernel
theorem dX8_turn_10 : decode cX8_turn 10 = .ok (.invokevirtual 88, 3) := by decide +kernel
theorem dX8_turn_13 : decode cX8_turn 13 = .ok (.ifCond .eq 20, 3) := by decide +kernel
theorem dX8_turn_16 : decode cX8_turn 16 = .ok (.iload_n 1, 1) := by decide +kernel
theorem dX8_turn_17 : decode cX8_turn 17 = .ok (.iload_n 2, 1) := by decide +kernel
theorem dX8_turn_18 : decode cX8_turn 18 = .ok (.if_icmp .eq 15, 3) := by decide +kernel
theorem dX8_turn_21 : decode cX8_turn 21 = .ok (.iload_n 3, 1) := by decide +kernel
theorem dX8_turn_22 : decode cX8_turn 22 = .ok (.i2l, 1) := by decide +kernel
theorem dX8_turn_23 : decode cX8_turn 23 = .ok (.lconst 0, 1) := by decide +kernel
theorem dX8_turn_24 : decode cX8_turn 24 = .ok (.ldc2_w 110, 3) := by decide +kernel
theorem dX8_turn_27 : decode cX8_turn 27 = .ok (.invokestatic 96, 3) := by decide +kernel
theorem dX8_turn_30 : decode cX8_turn 30 = .ok (.ifCond .ne 5, 3) := by decide +kernel
theorem dX8_turn_33 : decode cX8_turn 33 = .ok (.iconst 0, 1) := by decide +kernel
theorem dX8_turn_34 : decode cX8_turn 34 = .ok (.ireturn, 1) := by decide +kernel
theorem dX8_turn_35 : decode cX8_turn 35 = .ok (.aload_n 0, 1) := by decide +kernel
theorem dX8_turn_36 : decode cX8_turn 36 = .ok (.getfield 48, 3) := by decide +kernel
theorem dX8_turn_39 : decode cX8_turn 39 = .ok (.bipush 12, 2) := by decide +kernel
theorem dX8_turn_41 : decode cX8_turn 41 = .ok (.iload_n 1, 1) := by decide +kernel
theorem dX8_turn_42 : decode cX8_turn 42 = .ok (.imul, 1) := by decide +kernel
theorem dX8_turn_43 : decode cX8_turn 43 = .ok (.iload_n 2, 1) := by decide +kernel
theorem dX8_turn_44 : decode cX8_turn 44 = .ok (.iadd, 1) := by decide +kernel
theorem dX8_turn_45 : decode cX8_turn 45 = .ok (.iload_n 3, 1) := by decide +kernel
theorem dX8_turn_46 : decode cX8_turn 46 = .ok (.iastore, 1) := by decide +kernel
theorem dX8_turn_47 : decode cX8_turn 47 = .ok (.aload_n 0, 1) := by decide +kernel
theorem dX8_turn_48 : decode cX8_turn 48 = .ok (.getfield 51, 3) := by decide +kernel
theorem dX8_turn_51 : decode cX8_turn 51 = .ok (.bipush 12, 2) := by decide +kernel
theorem dX8_turn_53 : decode cX8_turn 53 = .ok (.iload_n 1, 1) := by decide +kernel
theorem dX8_turn_54 : decode cX8_turn 54 = .ok (.imul, 1) := by decide +kernel
theorem dX8_turn_55 : decode cX8_turn 55 = .ok (.iload_n 2, 1) := by decide +kernel
theorem dX8_turn_56 : decode cX8_turn 56 = .ok (.iadd, 1) := by decide +kernel
theorem dX8_turn_57 : decode cX8_turn 57 = .ok (.iload 4, 2) := by decide +kernel
theorem dX8_turn_59 : decode cX8_turn 59 = .ok (.ifCond .ne 7, 3) := by decide +kernel
theorem dX8_turn_62 : decode cX8_turn 62 = .ok (.iconst 1, 1) := by decide +kernel
theorem dX8_turn_63 : decode cX8_turn 63 = .ok (.goto 4, 3) := by decide +kernel
theorem dX8_turn_66 : decode cX8_turn 66 = .ok (.iconst 0, 1) := by decide +kernel
theorem dX8_turn_67 : decode cX8_turn 67 = .ok (.bastore, 1) := by decide +kernel
theorem dX8_turn_68 : decode cX8_turn 68 = .ok (.iconst 1, 1) := by decide +kernel
theorem dX8_turn_69 : decode cX8_turn 69 = .ok (.ireturn, 1) := by decide +kernel
abbrev rm_mM_turn : Room := { frames := 1, cells := 0, slots := 0, locals := 25 }
def mp_M_turn (u : S4) (x1 : Int32) (x2 : Int32) (x3 : Int32) (x4 : Int32) : Int32 × S4 :=
  let r1 : Int32 := mp_M_isStreet u x1
  if r1 = (0 : Int32) then
    ((0 : Int32), u)
  else
    let r3 : Int32 := mp_M_isStreet u x2
    if r3 = (0 : Int32) then
      ((0 : Int32), u)
    else
      if x1 = x2 then
        ((0 : Int32), u)
      else
        let r6 : Int32 := mp_M_isIn u (x3.toInt64) (0 : Int64) (1000 : Int64)
        if r6 = (0 : Int32) then
          ((0 : Int32), u)
        else
          let u9 : S4 := s4_wa u 10 (((12 : Int32) * x1) + x2) x3
          if x4 = (0 : Int32) then
            let u14 : S4 := s4_wz u9 11 (((12 : Int32) * x1) + x2) (1 : Int32)
            ((1 : Int32), u14)
          else
            let u12 : S4 := s4_wz u9 11 (((12 : Int32) * x1) + x2) (0 : Int32)
            ((1 : Int32), u12)
def mq_M_turn (u : S4) (x1 : Int32) (x2 : Int32) (x3 : Int32) (x4 : Int32) : Prop :=
  let r1 : Int32 := mp_M_isStreet u x1
  (¬ r1 = (0 : Int32) →
    let r3 : Int32 := mp_M_isStreet u x2
    (¬ r3 = (0 : Int32) →
      (¬ x1 = x2 →
        let r6 : Int32 := mp_M_isIn u (x3.toInt64) (0 : Int64) (1000 : Int64)
        (¬ r6 = (0 : Int32) →
          vp_in (((12 : Int32) * x1) + x2) 144 ∧
          let u9 : S4 := s4_wa u 10 (((12 : Int32) * x1) + x2) x3
          ((x4 = (0 : Int32) →
            vp_in (((12 : Int32) * x1) + x2) 144) ∧ (¬ x4 = (0 : Int32) →
            vp_in (((12 : Int32) * x1) + x2) 144))))))
set_option maxHeartbeats 4000000 in
set_option maxRecDepth 100000 in
theorem mc_M_turn (l : Launch) (D : va_G) (a : Nat → Nat) (k3 : K3) (u : S4) (x1 : Int32) (x2 : Int32) (x3 : Int32) (x4 : Int32) (hq : mq_M_turn u x1 x2 x3 x4) : MI l D vwCl (ty3 k3) nestW (mC a k3) yX8_turn (kX8_turn :: tbG) rm_mM_turn [.ref (a 0), .int x1, .int x2, .int x3, .int x4] u (mp_M_turn u x1 x2 x3 x4) := by
  refine mkI (cc := cX8_turn) (maxL := 5) (ret := (some .boolean)) (by decide) rfl (Nat.le_of_ble_eq_true rfl) ?_
  intro p e s m below meth c A ls F hw hl
  generalize hav : ([.ref (a 0), .int x1, .int x2, .int x3, .int x4] : List Value).toArray = av at F ⊢
  have hl : lv_has ls 5 [(0, .ref (a 0)), (1, .int x1), (2, .int x2), (3, .int x3), (4, .int x4)] := hl
  obtain ⟨hx, hb, hr, hml, hown, hts, hK, hN, hlocks, hA⟩ := id F
  have hown : s.vm.findClass RX8 = some m.cls := hown
  have htG : ∀ w ∈ tbG, w.before av s = true := fun w h => hts w (List.mem_cons_of_mem _ h)
  have k_110 := htG _ tb_628
  have f_48 := htG _ tb_530
  have f_51 := htG _ tb_531
  have hgo : ∀ P, mp_M_turn u x1 x2 x3 x4 = P → ∀ (H : Heap) (locs : List Loc), wd D vwCl (mC a k3) A s.heap u H locs → W p l e rm_mM_turn s m av below meth c H locs 0 0 (QI below D vwCl (mC a k3) A av s P) (F0 m 0 ls []) := by
    intro P hP H locs hw
    refine lv_aload_n hx hb dX8_turn_0 rfl (lv_at hl 0 rfl) ?_
    refine lv_iload_n hx hb dX8_turn_1 rfl (lv_at hl 1 rfl) ?_
    let r1 : Int32 := mp_M_isStreet u x1
    refine call_vir (rest := []) ⟨hx, hb, hml, hown, htG⟩ nestW_ok hK hN hA (mc_M_isStreet l D a k3 u x1) (cwV 1 htG (tb_V tb_624 tb_626 tb_10 tb_28 tb_627) rfl rfl rfl (by decide +kernel) ⟨Nat.le_of_ble_eq_true rfl, Nat.le_of_ble_eq_true rfl⟩) (ci := 8) rfl (mo_0 a k3 u) rfl hw rfl hl.1 rfl (Nat.le_of_ble_eq_true rfl) dX8_turn_2 ⟨Nat.zero_le _, Nat.zero_le _⟩ (fun H locs (hw : wd D vwCl (mC a k3) A s.heap u H locs) => ?_)
    refine lv_if_eq (tgt := 33) hx hb dX8_turn_5 (by decide) (fun c2 => ?_) (fun c2 => ?_)
    · have hP := (if_pos c2).symm.trans hP
      refine lv_iconst (v := 0) hx hb dX8_turn_33 (by decide) ?_
      exact ret_z hx hb hr hlocks hw rfl dX8_turn_34 hP
    · have hP := (if_neg c2).symm.trans hP
      have hq := hq c2
      refine lv_aload_n hx hb dX8_turn_8 rfl (lv_at hl 0 rfl) ?_
      refine lv_iload_n hx hb dX8_turn_9 rfl (lv_at hl 2 rfl) ?_
      let r3 : Int32 := mp_M_isStreet u x2
      refine call_vir (rest := []) ⟨hx, hb, hml, hown, htG⟩ nestW_ok hK hN hA (mc_M_isStreet l D a k3 u x2) (cwV 1 htG (tb_V tb_624 tb_626 tb_10 tb_28 tb_627) rfl rfl rfl (by decide +kernel) ⟨Nat.le_of_ble_eq_true rfl, Nat.le_of_ble_eq_true rfl⟩) (ci := 8) rfl (mo_0 a k3 u) rfl hw rfl hl.1 rfl (Nat.le_of_ble_eq_true rfl) dX8_turn_10 ⟨Nat.zero_le _, Nat.zero_le _⟩ (fun H locs (hw : wd D vwCl (mC a k3) A s.heap u H locs) => ?_)
      refine lv_if_eq (tgt := 33) hx hb dX8_turn_13 (by decide) (fun c4 => ?_) (fun c4 => ?_)
      · have hP := (if_pos c4).symm.trans hP
        refine lv_iconst (v := 0) hx hb dX8_turn_33 (by decide) ?_
        exact ret_z hx hb hr hlocks hw rfl dX8_turn_34 hP
      · have hP := (if_neg c4).symm.trans hP
        have hq := hq c4
        refine lv_iload_n hx hb dX8_turn_16 rfl (lv_at hl 1 rfl) ?_
        refine lv_iload_n hx hb dX8_turn_17 rfl (lv_at hl 2 rfl) ?_
        refine lv_icmp_eq (tgt := 33) hx hb dX8_turn_18 (by decide) (fun c5 => ?_) (fun c5 => ?_)
        · have hP := (if_pos c5).symm.trans hP
          refine lv_iconst (v := 0) hx hb dX8_turn_33 (by decide) ?_
          exact ret_z hx hb hr hlocks hw rfl dX8_turn_34 hP
        · have hP := (if_neg c5).symm.trans hP
          have hq := hq c5
          refine lv_iload_n hx hb dX8_turn_21 rfl (lv_at hl 3 rfl) ?_
          refine lv_i2l hx hb dX8_turn_22 rfl ?_
          refine lv_lconst (v := 0) hx hb dX8_turn_23 (by decide) ?_
          refine lv_ldc2 (v := 1000) hx hb hown k_110 dX8_turn_24 ?_
          let r6 : Int32 := mp_M_isIn u (x3.toInt64) (0 : Int64) (1000 : Int64)
          refine call_sir (rest := []) ⟨hx, hb, hml, hown, htG⟩ nestW_ok hK hN hA (mc_M_isIn l D a k3 u (x3.toInt64) (0 : Int64) (1000 : Int64)) (cwS 3 htG (tb_S tb_605 tb_606 tb_28 tb_607) rfl rfl rfl (by decide +kernel) ⟨Nat.le_of_ble_eq_true rfl, Nat.le_of_ble_eq_true rfl⟩) hw rfl hl.1 rfl (Nat.le_of_ble_eq_true rfl) dX8_turn_27 ⟨Nat.zero_le _, Nat.zero_le _⟩ (fun H locs (hw : wd D vwCl (mC a k3) A s.heap u H locs) => ?_)
          refine lv_if_ne (tgt := 35) hx hb dX8_turn_30 (by decide) (fun c7 => ?_) (fun c7 => ?_)
          · have hP := (if_neg c7).symm.trans hP
            have hq := hq c7
            refine lv_aload_n hx hb dX8_turn_35 rfl (lv_at hl 0 rfl) ?_
            refine va_get (D := D) (ci := 8) (v := .ref (a 13)) (C := RX8) (T := TX8) (N := 28) hx hb htG in_8 hown hK hw.1 0 (mo_0 a k3 u) rfl 16 (by decide) f_48 (fun _ h9 => h9) rfl dX8_turn_36 ?_
            refine lv_bipush (v := 12) hx hb dX8_turn_39 (by decide) ?_
            refine lv_iload_n hx hb dX8_turn_41 rfl (lv_at hl 1 rfl) ?_
            refine lv_imul hx hb dX8_turn_42 ?_
            refine lv_iload_n hx hb dX8_turn_43 rfl (lv_at hl 2 rfl) ?_
            refine lv_iadd hx hb dX8_turn_44 ?_
            refine lv_iload_n hx hb dX8_turn_45 rfl (lv_at hl 3 rfl) ?_
            obtain ⟨h8, hq⟩ := hq
            let u9 : S4 := s4_wa u 10 (((12 : Int32) * x1) + x2) x3
            refine y_iast (t0 := 0) hx hb hK hw 10 (mo_13 a k3 u) (mq_13 a k3 u) rfl h8 dX8_turn_46 (fun H locs (hw : wd D vwCl (mC a k3) A s.heap u9 H locs) => ?_)
            refine lv_aload_n hx hb dX8_turn_47 rfl (lv_at hl 0 rfl) ?_
            refine va_get (D := D) (ci := 8) (v := .ref (a 14)) (C := RX8) (T := TX8) (N := 28) hx hb htG in_8 hown hK hw.1 0 (mo_0 a k3 u9) rfl 17 (by decide) f_51 (fun _ h9 => h9) rfl dX8_turn_48 ?_
            refine lv_bipush (v := 12) hx hb dX8_turn_51 (by decide) ?_
            refine lv_iload_n hx hb dX8_turn_53 rfl (lv_at hl 1 rfl) ?_
            refine lv_imul hx hb dX8_turn_54 ?_
            refine lv_iload_n hx hb dX8_turn_55 rfl (lv_at hl 2 rfl) ?_
            refine lv_iadd hx hb dX8_turn_56 ?_
            refine lv_iload hx hb dX8_turn_57 (lv_at hl 4 rfl) ?_
            refine lv_if_ne (tgt := 66) hx hb dX8_turn_59 (by decide) (fun c10 => ?_) (fun c10 => ?_)
            · have hP := (if_neg c10).symm.trans hP
              have hq := hq.2 c10
              refine lv_iconst (v := 0) hx hb dX8_turn_66 (by decide) ?_
              have h11 := hq
              let u12 : S4 := s4_wz u9 11 (((12 : Int32) * x1) + x2) (0 : Int32)
              refine y_zast (t0 := 2) hx hb hK hw 11 (mo_14 a k3 u9) (mq_14 a k3 u9) rfl h11 dX8_turn_67 (fun H locs (hw : wd D vwCl (mC a k3) A s.heap u12 H locs) => ?_)
              refine lv_iconst (v := 1) hx hb dX8_turn_68 (by decide) ?_
              exact ret_z hx hb hr hlocks hw rfl dX8_turn_69 hP
            · have hP := (if_pos c10).symm.trans hP
              have hq := hq.1 c10
              refine lv_iconst (v := 1) hx hb dX8_turn_62 (by decide) ?_
              refine lv_goto (tgt := 67) hx hb dX8_turn_63 (by decide) ?_
              have h13 := hq
              let u14 : S4 := s4_wz u9 11 (((12 : Int32) * x1) + x2) (1 : Int32)
              refine y_zast (t0 := 2) hx hb hK hw 11 (mo_14 a k3 u9) (mq_14 a k3 u9) rfl h13 dX8_turn_67 (fun H locs (hw : wd D vwCl (mC a k3) A s.heap u14 H locs) => ?_)
              refine lv_iconst (v := 1) hx hb dX8_turn_68 (by decide) ?_
              exact ret_z hx hb hr hlocks hw rfl dX8_turn_69 hP
          · have hP := (if_pos c7).symm.trans hP
            refine lv_iconst (v := 0) hx hb dX8_turn_33 (by decide) ?_
            exact ret_z hx hb hr hlocks hw rfl dX8_turn_34 hP
  exact hgo _ rfl s.heap [] hw
