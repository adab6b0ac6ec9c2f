theorem dX5_endOf_0 : decode cX5_endOf 0 = .ok (.iload_n 1, 1) := by decide +kernel
theorem dX5_endOf_1 : decode cX5_endOf 1 = .ok (.iconst 2, 1) := by decide +kernel
theorem dX5_endOf_2 : decode cX5_endOf 2 = .ok (.irem, 1) := by decide +kernel
theorem dX5_endOf_3 : decode cX5_endOf 3 = .ok (.ifCond .ne 15, 3) := by decide +kernel
theorem dX5_endOf_6 : decode cX5_endOf 6 = .ok (.aload_n 0, 1) := by decide +kernel
theorem dX5_endOf_7 : decode cX5_endOf 7 = .ok (.getfield 15, 3) := by decide +kernel
theorem dX5_endOf_10 : decode cX5_endOf 10 = .ok (.iload_n 1, 1) := by decide +kernel
theorem dX5_endOf_11 : decode cX5_endOf 11 = .ok (.invokestatic 62, 3) := by decide +kernel
theorem dX5_endOf_14 : decode cX5_endOf 14 = .ok (.iaload, 1) := by decide +kernel
theorem dX5_endOf_15 : decode cX5_endOf 15 = .ok (.goto 12, 3) := by decide +kernel
theorem dX5_endOf_18 : decode cX5_endOf 18 = .ok (.aload_n 0, 1) := by decide +kernel
theorem dX5_endOf_19 : decode cX5_endOf 19 = .ok (.getfield 11, 3) := by decide +kernel
theorem dX5_endOf_22 : decode cX5_endOf 22 = .ok (.iload_n 1, 1) := by decide +kernel
theorem dX5_endOf_23 : decode cX5_endOf 23 = .ok (.invokestatic 62, 3) := by decide +kernel
theorem dX5_endOf_26 : decode cX5_endOf 26 = .ok (.iaload, 1) := by decide +kernel
theorem dX5_endOf_27 : decode cX5_endOf 27 = .ok (.ireturn, 1) := by decide +kernel
abbrev rm_xStreets_endOf : Room := { frames := 1, cells := 0, slots := 0, locals := 20 }
def xp_Streets_endOf (u : S4) (x1 : Int32) : Int32 :=
  if (x1 - x1 / (2 : Int32) * (2 : Int32)) = (0 : Int32) then
    let r4 : Int32 := xp_O_streetOf u x1
    (s4_ra u 3 r4)
  else
    let r2 : Int32 := xp_O_streetOf u x1
    (s4_ra u 2 r2)
def xq_Streets_endOf (u : S4) (x1 : Int32) : Prop :=
  (((x1 - x1 / (2 : Int32) * (2 : Int32)) = (0 : Int32) →
    let r4 : Int32 := xp_O_streetOf u x1
    vp_in r4 12) ∧ (¬ (x1 - x1 / (2 : Int32) * (2 : Int32)) = (0 : Int32) →
    let r2 : Int32 := xp_O_streetOf u x1
    vp_in r2 12))
set_option maxHeartbeats 4000000 in
set_option maxRecDepth 100000 in
theorem xc_Streets_endOf (l : Launch) (D : va_G) (a : Nat → Nat) (k3 : K3) (u : S4) (x1 : Int32) (hq : xq_Streets_endOf u x1) : MI l D vwCl (ty3 k3) nestW (xC a k3) yX5_endOf (kX5_endOf :: tbG) rm_xStreets_endOf [.ref (a 3), .int x1] u (xp_Streets_endOf u x1, u) := by
  refine mkI (cc := cX5_endOf) (maxL := 2) (ret := (some .int)) (by decide) rfl (Nat.le_of_ble_eq_true rfl) ?_
  intro p e s m below meth c A ls F hw hl
  generalize hav : ([.ref (a 3), .int x1] : List Value).toArray = av at F ⊢
  have hl : lv_has ls 2 [(0, .ref (a 3)), (1, .int x1)] := hl
  obtain ⟨hx, hb, hr, hml, hown, hts, hK, hN, hlocks, hA⟩ := id F
  have hown : s.vm.findClass RX5 = some m.cls := hown
  have htG : ∀ w ∈ tbG, w.before av s = true := fun w h => hts w (List.mem_cons_of_mem _ h)
  have f_11 := htG _ tb_71
  have f_15 := htG _ tb_72
  have hgo : ∀ P, xp_Streets_endOf u x1 = P → ∀ (H : Heap) (locs : List Loc), wd D vwCl (xC a k3) A s.heap u H locs → W p l e rm_xStreets_endOf s m av below meth c H locs 0 0 (QI below D vwCl (xC a k3) A av s (P, u)) (F0 m 0 ls []) := by
    intro P hP H locs hw
    refine lv_iload_n hx hb dX5_endOf_0 rfl (lv_at hl 1 rfl) ?_
    refine lv_iconst (v := 2) hx hb dX5_endOf_1 (by decide) ?_
    refine lv_irem hx hb dX5_endOf_2 (by decide) ?_
    refine lv_if_ne (tgt := 18) hx hb dX5_endOf_3 (by decide) (fun c1 => ?_) (fun c1 => ?_)
    · have hP := (if_neg c1).symm.trans hP
      have hq := hq.2 c1
      refine lv_aload_n hx hb dX5_endOf_18 rfl (lv_at hl 0 rfl) ?_
      refine va_get (D := D) (ci := 5) (v := .ref (a 13)) (C := RX5) (T := TX5) (N := 9) hx hb htG in_5 hown hK hw.1 3 (xo_3 a k3 u) rfl 0 (by decide) f_11 (fun _ h9 => h9) rfl dX5_endOf_19 ?_
      refine lv_iload_n hx hb dX5_endOf_22 rfl (lv_at hl 1 rfl) ?_
      let r2 : Int32 := xp_O_streetOf u x1
      refine call_nir (rest := [.ref (a 13)]) ⟨hx, hb, hml, hown, htG⟩ nestW_ok hK hN hA (xc_O_streetOf l D a k3 u x1) ⟨va_cnB (host := "StreetSides") 1 htG (tb_K tb_337) rfl rfl rfl (hN _ nw_12) (htG _ tb_20) (by decide +kernel) ⟨Nat.le_of_ble_eq_true rfl, Nat.le_of_ble_eq_true rfl⟩, htG _ tb_336, trivial⟩ hw rfl hl.1 rfl (Nat.le_of_ble_eq_true rfl) dX5_endOf_23 ⟨Nat.zero_le _, Nat.zero_le _⟩ (fun H locs (hw : wd D vwCl (xC a k3) A s.heap u H locs) => ?_)
      have h3 := hq
      refine y_iald (t0 := 0) hx hb hK hw 2 (xo_13 a k3 u) rfl h3 dX5_endOf_26 ?_
      exact ret_i hx hb hr hlocks hw dX5_endOf_27 (congrArg (fun z => (z, u)) hP)
    · have hP := (if_pos c1).symm.trans hP
      have hq := hq.1 c1
      refine lv_aload_n hx hb dX5_endOf_6 rfl (lv_at hl 0 rfl) ?_
      refine va_get (D := D) (ci := 5) (v := .ref (a 14)) (C := RX5) (T := TX5) (N := 9) hx hb htG in_5 hown hK hw.1 3 (xo_3 a k3 u) rfl 1 (by decide) f_15 (fun _ h9 => h9) rfl dX5_endOf_7 ?_
      refine lv_iload_n hx hb dX5_endOf_10 rfl (lv_at hl 1 rfl) ?_
      let r4 : Int32 := xp_O_streetOf u x1
      refine call_nir (rest := [.ref (a 14)]) ⟨hx, hb, hml, hown, htG⟩ nestW_ok hK hN hA (xc_O_streetOf l D a k3 u x1) ⟨va_cnB (host := "StreetSides") 1 htG (tb_K tb_337) rfl rfl rfl (hN _ nw_12) (htG _ tb_20) (by decide +kernel) ⟨Nat.le_of_ble_eq_true rfl, Nat.le_of_ble_eq_true rfl⟩, htG _ tb_336, trivial⟩ hw rfl hl.1 rfl (Nat.le_of_ble_eq_true rfl) dX5_endOf_11 ⟨Nat.zero_le _, Nat.zero_le _⟩ (fun H locs (hw : wd D vwCl (xC a k3) A s.heap u H locs) => ?_)
      have h5 := hq
      refine y_iald (t0 := 0) hx hb hK hw 3 (xo_14 a k3 u) rfl h5 dX5_endOf_14 ?_
      refine lv_goto (tgt := 27) hx hb dX5_endOf_15 (by decide) ?_
      exact ret_i hx hb hr hlocks hw dX5_endOf_27 (congrArg (fun z => (z, u)) hP)
  exact hgo _ rfl s.heap [] hw
theorem dX5_startOf_0 : decode cX5_startOf 0 = .ok (.iload_n 1, 1) := by decide +kernel
theorem dX5_startOf_1 : decode cX5_startOf 1 = .ok (.iconst 2, 1) := by decide +kernel
theorem dX5_startOf_2 : decode cX5_startOf 2 = .ok (.irem, 1) := by decide +kernel
theorem dX5_startOf_3 : decode cX5_startOf 3 = .ok (.ifCond .ne 15, 3) := by decide +kernel
theorem dX5_startOf_6 : decode cX5_startOf 6 = .ok (.aload_n 0, 1) := by decide +kernel
theorem dX5_startOf_7 : decode cX5_startOf 7 = .ok (.getfield 11, 3) := by decide +kernel
theorem dX5_startOf_10 : decode cX5_startOf 10 = .ok (.iload_n 1, 1) := by decide +kernel
theorem dX5_startOf_11 : decode cX5_startOf 11 = .ok (.invokestatic 62, 3) := by decide +kernel
theorem dX5_startOf_14 : decode cX5_startOf 14 = .ok (.iaload, 1) := by decide +kernel
theorem dX5_startOf_15 : decode cX5_startOf 15 = .ok (.goto 12, 3) := by decide +kernel
theorem dX5_startOf_18 : decode cX5_startOf 18 = .ok (.aload_n 0, 1) := by decide +kernel
theorem dX5_startOf_19 : decode cX5_startOf 19 = .ok (.getfield 15, 3) := by decide +kernel
theorem dX5_startOf_22 : decode cX5_startOf 22 = .ok (.iload_n 1, 1) := by decide +kernel
theorem dX5_startOf_23 : decode cX5_startOf 23 = .ok (.invokestatic 62, 3) := by decide +kernel
theorem dX5_startOf_26 : decode cX5_startOf 26 = .ok (.iaload, 1) := by decide +kernel
theorem dX5_startOf_27 : decode cX5_startOf 27 = .ok (.ireturn, 1) := by decide +kernel
abbrev rm_xStreets_startOf : Room := { frames := 1, cells := 0, slots := 0, locals := 20 }
def xp_Streets_startOf (u : S4) (x1 : Int32) : Int32 :=
  if (x1 - x1 / (2 : Int32) * (2 : Int32)) = (0 : Int32) then
    let r4 : Int32 := xp_O_streetOf u x1
    (s4_ra u 2 r4)
  else
    let r2 : Int32 := xp_O_streetOf u x1
    (s4_ra u 3 r2)
def xq_Streets_startOf (u : S4) (x1 : Int32) : Prop :=
  (((x1 - x1 / (2 : Int32) * (2 : Int32)) = (0 : Int32) →
    let r4 : Int32 := xp_O_streetOf u x1
    vp_in r4 12) ∧ (¬ (x1 - x1 / (2 : Int32) * (2 : Int32)) = (0 : Int32) →
    let r2 : Int32 := xp_O_streetOf u x1
    vp_in r2 12))
set_option maxHeartbeats 4000000 in
set_option maxRecDepth 100000 in
theorem xc_Streets_startOf (l : Launch) (D : va_G) (a : Nat → Nat) (k3 : K3) (u : S4) (x1 : Int32) (hq : xq_Streets_startOf u x1) : MI l D vwCl (ty3 k3) nestW (xC a k3) yX5_startOf (kX5_startOf :: tbG) rm_xStreets_startOf [.ref (a 3), .int x1] u (xp_Streets_startOf u x1, u) := by
  refine mkI (cc := cX5_startOf) (maxL := 2) (ret := (some .int)) (by decide) rfl (Nat.le_of_ble_eq_true rfl) ?_
  intro p e s m below meth c A ls F hw hl
  generalize hav : ([.ref (a 3), .int x1] : List Value).toArray = av at F ⊢
  have hl : lv_has ls 2 [(0, .ref (a 3)), (1, .int x1)] := hl
  obtain ⟨hx, hb, hr, hml, hown, hts, hK, hN, hlocks, hA⟩ := id F
  have hown : s.vm.findClass RX5 = some m.cls := hown
  have htG : ∀ w ∈ tbG, w.before av s = true := fun w h => hts w (List.mem_cons_of_mem _ h)
  have f_15 := htG _ tb_72
  have f_11 := htG _ tb_71
  have hgo : ∀ P, xp_Streets_startOf u x1 = P → ∀ (H : Heap) (locs : List Loc), wd D vwCl (xC a k3) A s.heap u H locs → W p l e rm_xStreets_startOf s m av below meth c H locs 0 0 (QI below D vwCl (xC a k3) A av s (P, u)) (F0 m 0 ls []) := by
    intro P hP H locs hw
    refine lv_iload_n hx hb dX5_startOf_0 rfl (lv_at hl 1 rfl) ?_
    refine lv_iconst (v := 2) hx hb dX5_startOf_1 (by decide) ?_
    refine lv_irem hx hb dX5_startOf_2 (by decide) ?_
    refine lv_if_ne (tgt := 18) hx hb dX5_startOf_3 (by decide) (fun c1 => ?_) (fun c1 => ?_)
    · have hP := (if_neg c1).symm.trans hP
      have hq := hq.2 c1
      refine lv_aload_n hx hb dX5_startOf_18 rfl (lv_at hl 0 rfl) ?_
      refine va_get (D := D) (ci := 5) (v := .ref (a 14)) (C := RX5) (T := TX5) (N := 9) hx hb htG in_5 hown hK hw.1 3 (xo_3 a k3 u) rfl 1 (by decide) f_15 (fun _ h9 => h9) rfl dX5_startOf_19 ?_
      refine lv_iload_n hx hb dX5_startOf_22 rfl (lv_at hl 1 rfl) ?_
      let r2 : Int32 := xp_O_streetOf u x1
      refine call_nir (rest := [.ref (a 14)]) ⟨hx, hb, hml, hown, htG⟩ nestW_ok hK hN hA (xc_O_streetOf l D a k3 u x1) ⟨va_cnB (host := "StreetSides") 1 htG (tb_K tb_337) rfl rfl rfl (hN _ nw_12) (htG _ tb_20) (by decide +kernel) ⟨Nat.le_of_ble_eq_true rfl, Nat.le_of_ble_eq_true rfl⟩, htG _ tb_336, trivial⟩ hw rfl hl.1 rfl (Nat.le_of_ble_eq_true rfl) dX5_startOf_23 ⟨Nat.zero_le _, Nat.zero_le _⟩ (fun H locs (hw : wd D vwCl (xC a k3) A s.heap u H locs) => ?_)
      have h3 := hq
      refine y_iald (t0 := 0) hx hb hK hw 3 (xo_14 a k3 u) rfl h3 dX5_startOf_26 ?_
      exact ret_i hx hb hr hlocks hw dX5_startOf_27 (congrArg (fun z => (z, u)) hP)
    · have hP := (if_pos c1).symm.trans hP
      have hq := hq.1 c1
      refine lv_aload_n hx hb dX5_startOf_6 rfl (lv_at hl 0 rfl) ?_
      refine va_get (D := D) (ci := 5) (v := .ref (a 13)) (C := RX5) (T := TX5) (N := 9) hx hb htG in_5 hown hK hw.1 3 (xo_3 a k3 u) rfl 0 (by decide) f_11 (fun _ h9 => h9) rfl dX5_startOf_7 ?_
      refine lv_iload_n hx hb dX5_startOf_10 rfl (lv_at hl 1 rfl) ?_
      let r4 : Int32 := xp_O_streetOf u x1
      refine call_nir (rest := [.ref (a 13)]) ⟨hx, hb, hml, hown, htG⟩ nestW_ok hK hN hA (xc_O_streetOf l D a k3 u x1) ⟨va_cnB (host := "StreetSides") 1 htG (tb_K tb_337) rfl rfl rfl (hN _ nw_12) (htG _ tb_20) (by decide +kernel) ⟨Nat.le_of_ble_eq_true rfl, Nat.le_of_ble_eq_true rfl⟩, htG _ tb_336, trivial⟩ hw rfl hl.1 rfl (Nat.le_of_ble_eq_true rfl) dX5_startOf_11 ⟨Nat.zero_le _, Nat.zero_le _⟩ (fun H locs (hw : wd D vwCl (xC a k3) A s.heap u H locs) => ?_)
      have h5 := hq
      refine y_iald (t0 := 0) hx hb hK hw 2 (xo_13 a k3 u) rfl h5 dX5_startOf_14 ?_
      refine lv_goto (tgt := 27) hx hb dX5_startOf_15 (by decide) ?_
      exact ret_i hx hb hr hlocks hw dX5_startOf_27 (congrArg (fun z => (z, u)) hP)
  exact hgo _ rfl s.heap [] hw
theorem dX5_hasWay_0 : decode cX5_hasWay 0 = .ok (.aload_n 0, 1) := by decide +kernel
theorem dX5_hasWay_1 : decode cX5_hasWay 1 = .ok (.getfield 21, 3) := by decide +kernel
theorem dX5_hasWay_4 : decode cX5_hasWay 4 = .ok (.iload_n 1, 1) := by decide +kernel
theorem dX5_hasWay_5 : decode cX5_hasWay 5 = .ok (.iaload, 1) := by decide +kernel
theorem dX5_hasWay_6 : decode cX5_hasWay 6 = .ok (.ifCond .eq 15, 3) := by decide +kernel
theorem dX5_hasWay_9 : decode cX5_hasWay 9 = .ok (.aload_n 0, 1) := by decide +kernel
theorem dX5_hasWay_10 : decode cX5_hasWay 10 = .ok (.getfield 21, 3) := by decide +kernel
theorem dX5_hasWay_13 : decode cX5_hasWay 13 = .ok (.iload_n 1, 1) := by decide +kernel
theorem dX5_hasWay_14 : decode cX5_hasWay 14 = .ok (.iaload, 1) := by decide +kernel
theorem dX5_hasWay_15 : decode cX5_hasWay 15 = .ok (.iload_n 2, 1) := by decide +kernel
theorem dX5_hasWay_16 : decode cX5_hasWay 16 = .ok (.iconst 1, 1) := by decide +kernel
theorem dX5_hasWay_17 : decode cX5_hasWay 17 = .ok (.iadd, 1) := by decide +kernel
theorem dX5_hasWay_18 : decode cX5_hasWay 18 = .ok (.if_icmp .ne 7, 3) := by decide +kernel
theorem dX5_hasWay_21 : decode cX5_hasWay 21 = .ok (.iconst 1, 1) := by decide +kernel
theorem dX5_hasWay_22 : decode cX5_hasWay 22 = .ok (.goto 4, 3) := by decide +kernel
theorem dX5_hasWay_25 : decode cX5_hasWay 25 = .ok (.iconst 0, 1) := by decide +kernel
theorem dX5_hasWay_26 : decode cX5_hasWay 26 = .ok (.ireturn, 1) := by decide +kernel
abbrev rm_xStreets_hasWay : Room := { frames := 0, cells := 0, slots := 0, locals := 0 }
def xp_Streets_hasWay (u : S4) (x1 : Int32) (x2 : Int32) : Int32 :=
  if (s4_ra u 5 x1) = (0 : Int32) then
    (1 : Int32)
  else
    if (s4_ra u 5 x1) = (x2 + (1 : Int32)) then
      (1 : Int32)
    else
      (0 : Int32)
def xq_Streets_hasWay (u : S4) (x1 : Int32) (x2 : Int32) : Prop :=
  vp_in x1 12 ∧
  (¬ (s4_ra u 5 x1) = (0 : Int32) →
    vp_in x1 12)
set_option maxHeartbeats 4000000 in
set_option maxRecDepth 100000 in
theorem xc_Streets_hasWay (l : Launch) (D : va_G) (a : Nat → Nat) (k3 : K3) (u : S4) (x1 : Int32) (x2 : Int32) (hq : xq_Streets_hasWay u x1 x2) : MI l D vwCl (ty3 k3) nestW (xC a k3) yX5_hasWay (kX5_hasWay :: tbG) rm_xStreets_hasWay [.ref (a 3), .int x1, .int x2] u (xp_Streets_hasWay u x1 x2, u) := by
  refine mkI (cc := cX5_hasWay) (maxL := 3) (ret := (some .boolean)) (by decide) rfl (Nat.le_of_ble_eq_true rfl) ?_
  intro p e s m below meth c A ls F hw hl
  generalize hav : ([.ref (a 3), .int x1, .int x2] : List Value).toArray = av at F ⊢
  have hl : lv_has ls 3 [(0, .ref (a 3)), (1, .int x1), (2, .int x2)] := hl
  obtain ⟨hx, hb, hr, hml, hown, hts, hK, hN, hlocks, hA⟩ := id F
  have hown : s.vm.findClass RX5 = some m.cls := hown
  have htG : ∀ w ∈ tbG, w.before av s = true := fun w h => hts w (List.mem_cons_of_mem _ h)
  have f_21 := htG _ tb_74
  have hgo : ∀ P, xp_Streets_hasWay u x1 x2 = P → ∀ (H : Heap) (locs : List Loc), wd D vwCl (xC a k3) A s.heap u H locs → W p l e rm_xStreets_hasWay s m av below meth c H locs 0 0 (QI below D vwCl (xC a k3) A av s (P, u)) (F0 m 0 ls []) := by
    intro P hP H locs hw
    refine lv_aload_n hx hb dX5_hasWay_0 rfl (lv_at hl 0 rfl) ?_
    refine va_get (D := D) (ci := 5) (v := .ref (a 16)) (C := RX5) (T := TX5) (N := 9) hx hb htG in_5 hown hK hw.1 3 (xo_3 a k3 u) rfl 3 (by decide) f_21 (fun _ h9 => h9) rfl dX5_hasWay_1 ?_
    refine lv_iload_n hx hb dX5_hasWay_4 rfl (lv_at hl 1 rfl) ?_
    obtain ⟨h1, hq⟩ := hq
    refine y_iald (t0 := 0) hx hb hK hw 5 (xo_16 a k3 u) rfl h1 dX5_hasWay_5 ?_
    refine lv_if_eq (tgt := 21) hx hb dX5_hasWay_6 (by decide) (fun c2 => ?_) (fun c2 => ?_)
    · have hP := (if_pos c2).symm.trans hP
      refine lv_iconst (v := 1) hx hb dX5_hasWay_21 (by decide) ?_
      refine lv_goto (tgt := 26) hx hb dX5_hasWay_22 (by decide) ?_
      exact ret_z hx hb hr hlocks hw rfl dX5_hasWay_26 (congrArg (fun z => (z, u)) hP)
    · have hP := (if_neg c2).symm.trans hP
      have hq := hq c2
      refine lv_aload_n hx hb dX5_hasWay_9 rfl (lv_at hl 0 rfl) ?_
      refine va_get (D := D) (ci := 5) (v := .ref (a 16)) (C := RX5) (T := TX5) (N := 9) hx hb htG in_5 hown hK hw.1 3 (xo_3 a k3 u) rfl 3 (by decide) f_21 (fun _ h9 => h9) rfl dX5_hasWay_10 ?_
      refine lv_iload_n hx hb dX5_hasWay_13 rfl (lv_at hl 1 rfl) ?_
      have h3 := hq
      refine y_iald (t0 := 0) hx hb hK hw 5 (xo_16 a k3 u) rfl h3 dX5_hasWay_14 ?_
      refine lv_iload_n hx hb dX5_hasWay_15 rfl (lv_at hl 2 rfl) ?_
      refine lv_iconst (v := 1) hx hb dX5_hasWay_16 (by decide) ?_
      refine lv_iadd hx hb dX5_hasWay_17 ?_
      refine lv_icmp_ne (tgt := 25) hx hb dX5_hasWay_18 (by decide) (fun c4 => ?_) (fun c4 => ?_)
      · have hP := (if_neg c4).symm.trans hP
        refine lv_iconst (v := 0) hx hb dX5_hasWay_25 (by decide) ?_
        exact ret_z hx hb hr hlocks hw rfl dX5_hasWay_26 (congrArg (fun z => (z, u)) hP)
      · have hP := (if_pos c4).symm.trans hP
        refine lv_iconst (v := 1) hx hb dX5_hasWay_21 (by decide) ?_
        refine lv_goto (tgt := 26) hx hb dX5_hasWay_22 (by decide) ?_
        exact ret_z hx hb hr hlocks hw rfl dX5_hasWay_26 (congrArg (fun z => (z, u)) hP)
  exact hgo _ rfl s.heap [] hw
theorem dX5_greatestOf_0 : decode cX5_greatestOf 0 = .ok (.aload_n 0, 1) := by decide +kernel
theorem dX5_greatestOf_1 : decode cX5_greatestOf 1 = .ok (.getfield 30, 3) := by decide +kernel
theorem dX5_greatestOf_4 : decode cX5_greatestOf 4 = .ok (.iload_n 1, 1) := by decide +kernel
theorem dX5_greatestOf_5 : decode cX5_greatestOf 5 = .ok (.iconst 2, 1) := by decide +kernel
theorem dX5_greatestOf_6 : decode cX5_greatestOf 6 = .ok (.imul, 1) := by decide +kernel
theorem dX5_greatestOf_7 : decode cX5_greatestOf 7 = .ok (.iload_n 2, 1) := by decide +kernel
theorem dX5_greatestOf_8 : decode cX5_greatestOf 8 = .ok (.iadd, 1) := by decide +kernel
theorem dX5_greatestOf_9 : decode cX5_greatestOf 9 = .ok (.laload, 1) := by decide +kernel
theorem dX5_greatestOf_10 : decode cX5_greatestOf 10 = .ok (.lreturn, 1) := by decide +kernel
abbrev rm_xStreets_greatestOf : Room := { frames := 0, cells := 0, slots := 0, locals := 0 }
def xp_Streets_greatestOf (u : S4) (x1 : Int32) (x2 : Int32) : Int64 :=
  (s4_rb u 3 ((x1 * (2 : Int32)) + x2))
def xq_Streets_greatestOf (u : S4) (x1 : Int32) (x2 : Int32) : Prop :=
  vp_in ((x1 * (2 : Int32)) + x2) 24
set_option maxHeartbeats 4000000 in
set_option maxRecDepth 100000 in
theorem xc_Streets_greatestOf (l : Launch) (D : va_G) (a : Nat → Nat) (k3 : K3) (u : S4) (x1 : Int32) (x2 : Int32) (hq : xq_Streets_greatestOf u x1 x2) : ML l D vwCl (ty3 k3) nestW (xC a k3) yX5_greatestOf (kX5_greatestOf :: tbG) rm_xStreets_greatestOf [.ref (a 3), .int x1, .int x2] u (xp_Streets_greatestOf u x1 x2, u) := by
  refine mkL (cc := cX5_greatestOf) (maxL := 3) (ret := (some .long)) (by decide) rfl (Nat.le_of_ble_eq_true rfl) ?_
  intro p e s m below meth c A ls F hw hl
  generalize hav : ([.ref (a 3), .int x1, .int x2] : List Value).toArray = av at F ⊢
  have hl : lv_has ls 3 [(0, .ref (a 3)), (1, .int x1), (2, .int x2)] := hl
  obtain ⟨hx, hb, hr, hml, hown, hts, hK, hN, hlocks, hA⟩ := id F
  have hown : s.vm.findClass RX5 = some m.cls := hown
  have htG : ∀ w ∈ tbG, w.before av s = true := fun w h => hts w (List.mem_cons_of_mem _ h)
  have f_30 := htG _ tb_77
  have hgo : ∀ P, xp_Streets_greatestOf u x1 x2 = P → ∀ (H : Heap) (locs : List Loc), wd D vwCl (xC a k3) A s.heap u H locs → W p l e rm_xStreets_greatestOf s m av below meth c H locs 0 0 (QL below D vwCl (xC a k3) A av s (P, u)) (F0 m 0 ls []) := by
    intro P hP H locs hw
    refine lv_aload_n hx hb dX5_greatestOf_0 rfl (lv_at hl 0 rfl) ?_
    refine va_get (D := D) (ci := 5) (v := .ref (a 19)) (C := RX5) (T := TX5) (N := 9) hx hb htG in_5 hown hK hw.1 3 (xo_3 a k3 u) rfl 6 (by decide) f_30 (fun _ h9 => h9) rfl dX5_greatestOf_1 ?_
    refine lv_iload_n hx hb dX5_greatestOf_4 rfl (lv_at hl 1 rfl) ?_
    refine lv_iconst (v := 2) hx hb dX5_greatestOf_5 (by decide) ?_
    refine lv_imul hx hb dX5_greatestOf_6 ?_
    refine lv_iload_n hx hb dX5_greatestOf_7 rfl (lv_at hl 2 rfl) ?_
    refine lv_iadd hx hb dX5_greatestOf_8 ?_
    have h1 := hq
    refine y_lald (t0 := 1) hx hb hK hw 3 (xo_19 a k3 u) rfl h1 dX5_greatestOf_9 ?_
    exact ret_l hx hb hr hlocks hw dX5_greatestOf_10 (congrArg (fun z => (z, u)) hP)
  exact hgo _ rfl s.heap [] hw
theorem dX2_canBeDriven_0 : decode cX2_canBeDriven 0 = .ok (.iload_n 1, 1) := by decide +kernel
theorem dX2_canBeDriven_1 : decode cX2_canBeDriven 1 = .ok (.invokestatic 40, 3) := by decide +kernel
theorem dX2_canBeDriven_4 : decode cX2_canBeDriven 4 = .ok (.istore_n 2, 1) := by decide +kernel
theorem dX2_canBeDriven_5 : decode cX2_canBeDriven 5 = .ok (.aload_n 0, 1) := by decide +kernel
theorem dX2_canBeDriven_6 : decode cX2_canBeDriven 6 = .ok (.getfield 21, 3) := by decide +kernel
theorem dX2_canBeDriven_9 : decode cX2_canBeDriven 9 = .ok (.iload_n 2, 1) := by decide +kernel
theorem dX2_canBeDriven_10 : decode cX2_canBeDriven 10 = .ok (.iload_n 1, 1) := by decide +kernel
theorem dX2_canBeDriven_11 : decode cX2_canBeDriven 11 = .ok (.iconst 2, 1) := by decide +kernel
theorem dX2_canBeDriven_12 : decode cX2_canBeDriven 12 = .ok (.irem, 1) := by decide +kernel
theorem dX2_canBeDriven_13 : decode cX2_canBeDriven 13 = .ok (.invokevirtual 44, 3) := by decide +kernel
theorem dX2_canBeDriven_16 : decode cX2_canBeDriven 16 = .ok (.ifCond .eq 45, 3) := by decide +kernel
theorem dX2_canBeDriven_19 : decode cX2_canBeDriven 19 = .ok (.aload_n 0, 1) := by decide +kernel
theorem dX2_canBeDriven_20 : decode cX2_canBeDriven 20 = .ok (.getfield 32, 3) := by decide +kernel
theorem dX2_canBeDriven_23 : decode cX2_canBeDriven 23 = .ok (.iconst 0, 1) := by decide +kernel
theorem dX2_canBeDriven_24 : decode cX2_canBeDriven 24 = .ok (.laload, 1) := by decide +kernel
theorem dX2_canBeDriven_25 : decode cX2_canBeDriven 25 = .ok (.aload_n 0, 1) := by decide +kernel
theorem dX2_canBeDriven_26 : decode cX2_canBeDriven 26 = .ok (.getfield 21, 3) := by decide +kernel
theorem dX2_canBeDriven_29 : decode cX2_canBeDriven 29 = .ok (.iload_n 2, 1) := by decide +kernel
theorem dX2_canBeDriven_30 : decode cX2_canBeDriven 30 = .ok (.iconst 0, 1) := by decide +kernel
theorem dX2_canBeDriven_31 : decode cX2_canBeDriven 31 = .ok (.invokevirtual 48, 3) := by decide +kernel
theorem dX2_canBeDriven_34 : decode cX2_canBeDriven 34 = .ok (.lcmp, 1) := by decide +kernel
theorem dX2_canBeDriven_35 : decode cX2_canBeDriven 35 = .ok (.ifCond .gt 26, 3) := by decide +kernel
theorem dX2_canBeDriven_38 : decode cX2_canBeDriven 38 = .ok (.aload_n 0, 1) := by decide +kernel
theorem dX2_canBeDriven_39 : decode cX2_canBeDriven 39 = .ok (.getfield 32, 3) := by decide +kernel
theorem dX2_canBeDriven_42 : decode cX2_canBeDriven 42 = .ok (.iconst 1, 1) := by decide +kernel
theorem dX2_canBeDriven_43 : decode cX2_canBeDriven 43 = .ok (.laload, 1) := by decide +kernel
theorem dX2_canBeDriven_44 : decode cX2_canBeDriven 44 = .ok (.aload_n 0, 1) := by decide +kernel
theorem dX2_canBeDriven_45 : decode cX2_canBeDriven 45 = .ok (.getfield 21, 3) := by decide +kernel
theorem dX2_canBeDriven_48 : decode cX2_canBeDriven 48 = .ok (.iload_n 2, 1) := by decide +kernel
theorem dX2_canBeDriven_49 : decode cX2_canBeDriven 49 = .ok (.iconst 1, 1) := by decide +kernel
theorem dX2_canBeDriven_50 : decode cX2_canBeDriven 50 = .ok (.invokevirtual 48, 3) := by decide +kernel
theorem dX2_canBeDriven_53 : decode cX2_canBeDriven 53 = .ok (.lcmp, 1) := by decide +kernel
theorem dX2_canBeDriven_54 : decode cX2_canBeDriven 54 = .ok (.ifCond .gt 7, 3) := by decide +kernel
theorem dX2_canBeDriven_57 : decode cX2_canBeDriven 57 = .ok (.iconst 1, 1) := by decide +kernel
theorem dX2_canBeDriven_58 : decode cX2_canBeDriven 58 = .ok (.goto 4, 3) := by decide +kernel
theorem dX2_canBeDriven_61 : decode cX2_canBeDriven 61 = .ok (.iconst 0, 1) := by decide +kernel
theorem dX2_canBeDriven_62 : decode cX2_canBeDriven 62 = .ok (.ireturn, 1) := by decide +kernel
abbrev rm_xNet_canBeDriven : Room := { frames := 1, cells := 0, slots := 0, locals := 22 }
def xp_Net_canBeDriven (u : S4) (x1 : Int32) : Int32 :=
  let r1 : Int32 := xp_O_streetOf u x1
  let r3 : Int32 := xp_Streets_hasWay u r1 (x1 - x1 / (2 : Int32) * (2 : Int32))
  if r3 = (0 : Int32) then
    (0 : Int32)
  else
    let r7 : Int64 := xp_Streets_greatestOf u r1 (0 : Int32)
    if (0 : Int32) < (lg_cmp (s4_rb u 0 (0 : Int32)) r7) then
      (0 : Int32)
    else
      let r11 : Int64 := xp_Streets_greatestOf u r1 (1 : Int32)
      if (0 : Int32) < (lg_cmp (s4_rb u 0 (1 : Int32)) r11) then
        (0 : Int32)
      else
        (1 : Int32)
def xq_Net_canBeDriven (u : S4) (x1 : Int32) : Prop :=
  let r1 : Int32 := xp_O_streetOf u x1
  xq_Streets_hasWay u r1 (x1 - x1 / (2 : Int32) * (2 : Int32)) ∧
  let r3 : Int32 := xp_Streets_hasWay u r1 (x1 - x1 / (2 : Int32) * (2 : Int32))
  (¬ r3 = (0 : Int32) →
    vp_in (0 : Int32) 2 ∧
    xq_Streets_greatestOf u r1 (0 : Int32) ∧
    let r7 : Int64 := xp_Streets_greatestOf u r1 (0 : Int32)
    (¬ (0 : Int32) < (lg_cmp (s4_rb u 0 (0 : Int32)) r7) →
      vp_in (1 : Int32) 2 ∧
      xq_Streets_greatestOf u r1 (1 : Int32)))
set_option maxHeartbeats 4000000 in
set_option maxRecDepth 100000 in
theorem xc_Net_canBeDriven (l : Launch) (D : va_G) (a : Nat → Nat) (k3 : K3) (u : S4) (x1 : Int32) (hq : xq_Net_canBeDriven u x1) : MI l D vwCl (ty3 k3) nestW (xC a k3) yX2_canBeDriven (kX2_canBeDriven :: tbG) rm_xNet_canBeDriven [.ref (a 1), .int x1] u (xp_Net_canBeDriven u x1, u) := by
  refine mkI (cc := cX2_canBeDriven) (maxL := 3) (ret := (some .boolean)) (by decide) rfl (Nat.le_of_ble_eq_true rfl) ?_
  intro p e s m below meth c A ls F hw hl
  generalize hav : ([.ref (a 1), .int x1] : List Value).toArray = av at F ⊢
  have hl : lv_has ls 3 [(0, .ref (a 1)), (1, .int x1)] := hl
  obtain ⟨hx, hb, hr, hml, hown, hts, hK, hN, hlocks, hA⟩ := id F
  have hown : s.vm.findClass RX2 = some m.cls := hown
  have htG : ∀ w ∈ tbG, w.before av s = true := fun w h => hts w (List.mem_cons_of_mem _ h)
  have f_21 := htG _ tb_115
  have f_32 := htG _ tb_120
  have hgo : ∀ P, xp_Net_canBeDriven u x1 = P → ∀ (H : Heap) (locs : List Loc), wd D vwCl (xC a k3) A s.heap u H locs → W p l e rm_xNet_canBeDriven s m av below meth c H locs 0 0 (QI below D vwCl (xC a k3) A av s (P, u)) (F0 m 0 ls []) := by
    intro P hP H locs hw
    refine lv_iload_n hx hb dX2_canBeDriven_0 rfl (lv_at hl 1 rfl) ?_
    let r1 : Int32 := xp_O_streetOf u x1
    refine call_nir (rest := []) ⟨hx, hb, hml, hown, htG⟩ nestW_ok hK hN hA (xc_O_streetOf l D a k3 u x1) ⟨va_cnB (host := "StreetSides") 1 htG (tb_K tb_337) rfl rfl rfl (hN _ nw_13) (htG _ tb_20) (by decide +kernel) ⟨Nat.le_of_ble_eq_true rfl, Nat.le_of_ble_eq_true rfl⟩, htG _ tb_336, trivial⟩ hw rfl hl.1 rfl (Nat.le_of_ble_eq_true rfl) dX2_canBeDriven_1 ⟨Nat.zero_le _, Nat.zero_le _⟩ (fun H locs (hw : wd D vwCl (xC a k3) A s.heap u H locs) => ?_)
    refine lv_istore_n (lv' := [(2, .int r1), (0, .ref (a 1)), (1, .int x1)]) hx hb dX2_canBeDriven_4 rfl hl (by decide) rfl (fun ls hl => ?_)
    refine lv_aload_n hx hb dX2_canBeDriven_5 rfl (lv_at hl 1 rfl) ?_
    refine va_get (D := D) (ci := 2) (v := .ref (a 3)) (C := RX2) (T := TX2) (N := 5) hx hb htG in_2 hown hK hw.1 1 (xo_1 a k3 u) rfl 1 (by decide) f_21 (fun _ h9 => h9) rfl dX2_canBeDriven_6 ?_
    refine lv_iload_n hx hb dX2_canBeDriven_9 rfl (lv_at hl 0 rfl) ?_
    refine lv_iload_n hx hb dX2_canBeDriven_10 rfl (lv_at hl 2 rfl) ?_
    refine lv_iconst (v := 2) hx hb dX2_canBeDriven_11 (by decide) ?_
    refine lv_irem hx hb dX2_canBeDriven_12 (by decide) ?_
    obtain ⟨h2, hq⟩ := hq
    let r3 : Int32 := xp_Streets_hasWay u r1 (x1 - x1 / (2 : Int32) * (2 : Int32))
    refine call_vir (rest := []) ⟨hx, hb, hml, hown, htG⟩ nestW_ok hK hN hA (xc_Streets_hasWay l D a k3 u r1 (x1 - x1 / (2 : Int32) * (2 : Int32)) h2) (cwV 2 htG (tb_V tb_347 tb_348 tb_349 tb_23 tb_350) rfl rfl rfl (by decide +kernel) ⟨Nat.le_of_ble_eq_true rfl, Nat.le_of_ble_eq_true rfl⟩) (ci := 5) rfl (xo_3 a k3 u) rfl hw rfl hl.1 rfl (Nat.le_of_ble_eq_true rfl) dX2_canBeDriven_13 ⟨Nat.zero_le _, Nat.zero_le _⟩ (fun H locs (hw : wd D vwCl (xC a k3) A s.heap u H locs) => ?_)
    refine lv_if_eq (tgt := 61) hx hb dX2_canBeDriven_16 (by decide) (fun c4 => ?_) (fun c4 => ?_)
    · have hP := (if_pos c4).symm.trans hP
      refine lv_iconst (v := 0) hx hb dX2_canBeDriven_61 (by decide) ?_
      exact ret_z hx hb hr hlocks hw rfl dX2_canBeDriven_62 (congrArg (fun z => (z, u)) hP)
    · have hP := (if_neg c4).symm.trans hP
      have hq := hq c4
      refine lv_aload_n hx hb dX2_canBeDriven_19 rfl (lv_at hl 1 rfl) ?_
      refine va_get (D := D) (ci := 2) (v := .ref (a 8)) (C := RX2) (T := TX2) (N := 5) hx hb htG in_2 hown hK hw.1 1 (xo_1 a k3 u) rfl 3 (by decide) f_32 (fun _ h9 => h9) rfl dX2_canBeDriven_20 ?_
      refine lv_iconst (v := 0) hx hb dX2_canBeDriven_23 (by decide) ?_
      obtain ⟨h5, hq⟩ := hq
      refine y_lald (t0 := 1) hx hb hK hw 0 (xo_8 a k3 u) rfl h5 dX2_canBeDriven_24 ?_
      refine lv_aload_n hx hb dX2_canBeDriven_25 rfl (lv_at hl 1 rfl) ?_
      refine va_get (D := D) (ci := 2) (v := .ref (a 3)) (C := RX2) (T := TX2) (N := 5) hx hb htG in_2 hown hK hw.1 1 (xo_1 a k3 u) rfl 1 (by decide) f_21 (fun _ h9 => h9) rfl dX2_canBeDriven_26 ?_
      refine lv_iload_n hx hb dX2_canBeDriven_29 rfl (lv_at hl 0 rfl) ?_
      refine lv_iconst (v := 0) hx hb dX2_canBeDriven_30 (by decide) ?_
      obtain ⟨h6, hq⟩ := hq
      let r7 : Int64 := xp_Streets_greatestOf u r1 (0 : Int32)
      refine call_vlr (rest := [.long (s4_rb u 0 (0 : Int32))]) ⟨hx, hb, hml, hown, htG⟩ nestW_ok hK hN hA (xc_Streets_greatestOf l D a k3 u r1 (0 : Int32) h6) (cwV 2 htG (tb_V tb_351 tb_352 tb_353 tb_23 tb_354) rfl rfl rfl (by decide +kernel) ⟨Nat.le_of_ble_eq_true rfl, Nat.le_of_ble_eq_true rfl⟩) (ci := 5) rfl (xo_3 a k3 u) rfl hw rfl hl.1 rfl (Nat.le_of_ble_eq_true rfl) dX2_canBeDriven_31 ⟨Nat.zero_le _, Nat.zero_le _⟩ (fun H locs (hw : wd D vwCl (xC a k3) A s.heap u H locs) => ?_)
      refine W.lcmp hx hb dX2_canBeDriven_34 ?_
      refine lv_if_gt (tgt := 61) hx hb dX2_canBeDriven_35 (by decide) (fun c8 => ?_) (fun c8 => ?_)
      · have hP := (if_pos c8).symm.trans hP
        refine lv_iconst (v := 0) hx hb dX2_canBeDriven_61 (by decide) ?_
        exact ret_z hx hb hr hlocks hw rfl dX2_canBeDriven_62 (congrArg (fun z => (z, u)) hP)
      · have hP := (if_neg c8).symm.trans hP
        have hq := hq c8
        refine lv_aload_n hx hb dX2_canBeDriven_38 rfl (lv_at hl 1 rfl) ?_
        refine va_get (D := D) (ci := 2) (v := .ref (a 8)) (C := RX2) (T := TX2) (N := 5) hx hb htG in_2 hown hK hw.1 1 (xo_1 a k3 u) rfl 3 (by decide) f_32 (fun _ h9 => h9) rfl dX2_canBeDriven_39 ?_
        refine lv_iconst (v := 1) hx hb dX2_canBeDriven_42 (by decide) ?_
        obtain ⟨h9, hq⟩ := hq
        refine y_lald (t0 := 1) hx hb hK hw 0 (xo_8 a k3 u) rfl h9 dX2_canBeDriven_43 ?_
        refine lv_aload_n hx hb dX2_canBeDriven_44 rfl (lv_at hl 1 rfl) ?_
        refine va_get (D := D) (ci := 2) (v := .ref (a 3)) (C := RX2) (T := TX2) (N := 5) hx hb htG in_2 hown hK hw.1 1 (xo_1 a k3 u) rfl 1 (by decide) f_21 (fun _ h9 => h9) rfl dX2_canBeDriven_45 ?_
        refine lv_iload_n hx hb dX2_canBeDriven_48 rfl (lv_at hl 0 rfl) ?_
        refine lv_iconst (v := 1) hx hb dX2_canBeDriven_49 (by decide) ?_
        have h10 := hq
        let r11 : Int64 := xp_Streets_greatestOf u r1 (1 : Int32)
        refine call_vlr (rest := [.long (s4_rb u 0 (1 : Int32))]) ⟨hx, hb, hml, hown, htG⟩ nestW_ok hK hN hA (xc_Streets_greatestOf l D a k3 u r1 (1 : Int32) h10) (cwV 2 htG (tb_V tb_351 tb_352 tb_353 tb_23 tb_354) rfl rfl rfl (by decide +kernel) ⟨Nat.le_of_ble_eq_true rfl, Nat.le_of_ble_eq_true rfl⟩) (ci := 5) rfl (xo_3 a k3 u) rfl hw rfl hl.1 rfl (Nat.le_of_ble_eq_true rfl) dX2_canBeDriven_50 ⟨Nat.zero_le _, Nat.zero_le _⟩ (fun H locs (hw : wd D vwCl (xC a k3) A s.heap u H locs) => ?_)
        refine W.lcmp hx hb dX2_canBeDriven_53 ?_
        refine lv_if_gt (tgt := 61) hx hb dX2_canBeDriven_54 (by decide) (fun c12 => ?_) (fun c12 => ?_)
        · have hP := (if_pos c12).symm.trans hP
          refine lv_iconst (v := 0) hx hb dX2_canBeDriven_61 (by decide) ?_
          exact ret_z hx hb hr hlocks hw rfl dX2_canBeDriven_62 (congrArg (fun z => (z, u)) hP)
        · have hP := (if_neg c12).symm.trans hP
          refine lv_iconst (v := 1) hx hb dX2_canBeDriven_57 (by decide) ?_
          refine lv_goto (tgt := 62) hx hb dX2_canBeDriven_58 (by decide) ?_
          exact ret_z hx hb hr hlocks hw rfl dX2_canBeDriven_62 (congrArg (fun z => (z, u)) hP)
  exact hgo _ rfl s.heap [] hw
theorem dX6_isBarred_0 : decode cX6_isBarred 0 = .ok (.aload_n 0, 1) := by decide +kernel
theorem dX6_isBarred_1 : decode cX6_isBarred 1 = .ok (.getfield 15, 3) := by decide +kernel
theorem dX6_isBarred_4 : decode cX6_isBarred 4 = .ok (.iload_n 1, 1) := by decide +kernel
theorem dX6_isBarred_5 : decode cX6_isBarred 5 = .ok (.iload_n 2, 1) := by decide +kernel
theorem dX6_isBarred_6 : decode cX6_isBarred 6 = .ok (.invokestatic 19, 3) := by decide +kernel
theorem dX6_isBarred_9 : decode cX6_isBarred 9 = .ok (.baload, 1) := by decide +kernel
theorem dX6_isBarred_10 : decode cX6_isBarred 10 = .ok (.ireturn, 1) := by decide +kernel
abbrev rm_xTurns_isBarred : Room := { frames := 1, cells := 0, slots := 0, locals := 21 }
def xp_Turns_isBarred (u : S4) (x1 : Int32) (x2 : Int32) : Int32 :=
  let r1 : Int32 := xp_Turns_slotOf u x1 x2
  (s4_ra u 9 r1)
def xq_Turns_isBarred (u : S4) (x1 : Int32) (x2 : Int32) : Prop :=
  let r1 : Int32 := xp_Turns_slotOf u x1 x2
  vp_in r1 144 ∧
  vz (s4_ra u 9 r1)
set_option maxHeartbeats 4000000 in
set_option maxRecDepth 100000 in
theorem xc_Turns_isBarred (l : Launch) (D : va_G) (a : Nat → Nat) (k3 : K3) (u : S4) (x1 : Int32) (x2 : Int32) (hq : xq_Turns_isBarred u x1 x2) : MI l D vwCl (ty3 k3) nestW (xC a k3) yX6_isBarred (kX6_isBarred :: tbG) rm_xTurns_isBarred [.ref (a 4), .int x1, .int x2] u (xp_Turns_isBarred u x1 x2, u) := by
  refine mkI (cc := cX6_isBarred) (maxL := 3) (ret := (some .boolean)) (by decide) rfl (Nat.le_of_ble_eq_true rfl) ?_
  intro p e s m below meth c A ls F hw hl
  generalize hav : ([.ref (a 4), .int x1, .int x2] : List Value).toArray = av at F ⊢
  have hl : lv_has ls 3 [(0, .ref (a 4)), (1, .int x1), (2, .int x2)] := hl
  obtain ⟨hx, hb, hr, hml, hown, hts, hK, hN, hlocks, hA⟩ := id F
  have hown : s.vm.findClass RX6 = some m.cls := hown
  have htG : ∀ w ∈ tbG, w.before av s = true := fun w h => hts w (List.mem_cons_of_mem _ h)
  have f_15 := htG _ tb_107
  have hgo : ∀ P, xp_Turns_isBarred u x1 x2 = P → ∀ (H : Heap) (locs : List Loc), wd D vwCl (xC a k3) A s.heap u H locs → W p l e rm_xTurns_isBarred s m av below meth c H locs 0 0 (QI below D vwCl (xC a k3) A av s (P, u)) (F0 m 0 ls []) := by
    intro P hP H locs hw
    refine lv_aload_n hx hb dX6_isBarred_0 rfl (lv_at hl 0 rfl) ?_
    refine va_get (D := D) (ci := 6) (v := .ref (a 22)) (C := RX6) (T := TX6) (N := 2) hx hb htG in_6 hown hK hw.1 4 (xo_4 a k3 u) rfl 1 (by decide) f_15 (fun _ h9 => h9) rfl dX6_isBarred_1 ?_
    refine lv_iload_n hx hb dX6_isBarred_4 rfl (lv_at hl 1 rfl) ?_
    refine lv_iload_n hx hb dX6_isBarred_5 rfl (lv_at hl 2 rfl) ?_
    let r1 : Int32 := xp_Turns_slotOf u x1 x2
    refine call_sir (rest := [.ref (a 22)]) ⟨hx, hb, hml, hown, htG⟩ nestW_ok hK hN hA (xc_Turns_slotOf l D a k3 u x1 x2) (cwS 2 htG (tb_S tb_248 tb_249 tb_24 tb_250) rfl rfl rfl (by decide +kernel) ⟨Nat.le_of_ble_eq_true rfl, Nat.le_of_ble_eq_true rfl⟩) hw rfl hl.1 rfl (Nat.le_of_ble_eq_true rfl) dX6_isBarred_6 ⟨Nat.zero_le _, Nat.zero_le _⟩ (fun H locs (hw : wd D vwCl (xC a k3) A s.heap u H locs) => ?_)
    obtain ⟨h2, hq⟩ := hq
    refine y_zald (t0 := 2) hx hb hK hw 9 (xo_22 a k3 u) rfl h2 dX6_isBarred_9 ?_
    have h3 := hq
    exact ret_z hx hb hr hlocks hw h3 dX6_isBarred_10 (congrArg (fun z => (z, u)) hP)
  exact hgo _ rfl s.heap [] hw
theorem dX3_isTurningPlace_0 : decode cX3_isTurningPlace 0 = .ok (.aload_n 0, 1) := by decide +kernel
theorem dX3_isTurningPlace_1 : decode cX3_isTurningPlace 1 = .ok (.getfield 18, 3) := by decide +kernel
theorem dX3_isTurningPlace_4 : decode cX3_isTurningPlace 4 = .ok (.iload_n 1, 1) := by decide +kernel
theorem dX3_isTurningPlace_5 : decode cX3_isTurningPlace 5 = .ok (.baload, 1) := by decide +kernel
theorem dX3_isTurningPlace_6 : decode cX3_isTurningPlace 6 = .ok (.ireturn, 1) := by decide +kernel
abbrev rm_xNodes_isTurningPlace : Room := { frames := 0, cells := 0, slots := 0, locals := 0 }
def xp_Nodes_isTurningPlace (u : S4) (x1 : Int32) : Int32 :=
  (s4_ra u 1 x1)
def xq_Nodes_isTurningPlace (u : S4) (x1 : Int32) : Prop :=
  vp_in x1 8 ∧
  vz (s4_ra u 1 x1)
set_option maxHeartbeats 4000000 in
set_option maxRecDepth 100000 in
theorem xc_Nodes_isTurningPlace (l : Launch) (D : va_G) (a : Nat → Nat) (k3 : K3) (u : S4) (x1 : Int32) (hq : xq_Nodes_isTurningPlace u x1) : MI l D vwCl (ty3 k3) nestW (xC a k3) yX3_isTurningPlace (kX3_isTurningPlace :: tbG) rm_xNodes_isTurningPlace [.ref (a 2), .int x1] u (xp_Nodes_isTurningPlace u x1, u) := by
  refine mkI (cc := cX3_isTurningPlace) (maxL := 2) (ret := (some .boolean)) (by decide) rfl (Nat.le_of_ble_eq_true rfl) ?_
  intro p e s m below meth c A ls F hw hl
  generalize hav : ([.ref (a 2), .int x1] : List Value).toArray = av at F ⊢
  have hl : lv_has ls 2 [(0, .ref (a 2)), (1, .int x1)] := hl
  obtain ⟨hx, hb, hr, hml, hown, hts, hK, hN, hlocks, hA⟩ := id F
  have hown : s.vm.findClass RX3 = some m.cls := hown
  have htG : ∀ w ∈ tbG, w.before av s = true := fun w h => hts w (List.mem_cons_of_mem _ h)
  have f_18 := htG _ tb_52
  have hgo : ∀ P, xp_Nodes_isTurningPlace u x1 = P → ∀ (H : Heap) (locs : List Loc), wd D vwCl (xC a k3) A s.heap u H locs → W p l e rm_xNodes_isTurningPlace s m av below meth c H locs 0 0 (QI below D vwCl (xC a k3) A av s (P, u)) (F0 m 0 ls []) := by
    intro P hP H locs hw
    refine lv_aload_n hx hb dX3_isTurningPlace_0 rfl (lv_at hl 0 rfl) ?_
    refine va_get (D := D) (ci := 3) (v := .ref (a 12)) (C := RX3) (T := TX3) (N := 4) hx hb htG in_3 hown hK hw.1 2 (xo_2 a k3 u) rfl 2 (by decide) f_18 (fun _ h9 => h9) rfl dX3_isTurningPlace_1 ?_
    refine lv_iload_n hx hb dX3_isTurningPlace_4 rfl (lv_at hl 1 rfl) ?_
    obtain ⟨h1, hq⟩ := hq
    refine y_zald (t0 := 2) hx hb hK hw 1 (xo_12 a k3 u) rfl h1 dX3_isTurningPlace_5 ?_
    have h2 := hq
    exact ret_z hx hb hr hlocks hw h2 dX3_isTurningPlace_6 (congrArg (fun z => (z, u)) hP)
  exact hgo _ rfl s.heap [] hw
theorem dX2_goesOn_0 : decode cX2_goesOn 0 = .ok (.aload_n 0, 1) := by decide +kernel
theorem dX2_goesOn_1 : decode cX2_goesOn 1 = .ok (.getfield 21, 3) := by decide +kernel
theorem dX2_goesOn_4 : decode cX2_goesOn 4 = .ok (.iload_n 1, 1) := by decide +kernel
theorem dX2_goesOn_5 : decode cX2_goesOn 5 = .ok (.invokevirtual 52, 3) := by decide +kernel
theorem dX2_goesOn_8 : decode cX2_goesOn 8 = .ok (.istore_n 3, 1) := by decide +kernel
theorem dX2_goesOn_9 : decode cX2_goesOn 9 = .ok (.aload_n 0, 1) := by decide +kernel
theorem dX2_goesOn_10 : decode cX2_goesOn 10 = .ok (.getfield 21, 3) := by decide +kernel
theorem dX2_goesOn_13 : decode cX2_goesOn 13 = .ok (.iload_n 2, 1) := by decide +kernel
theorem dX2_goesOn_14 : decode cX2_goesOn 14 = .ok (.invokevirtual 55, 3) := by decide +kernel
theorem dX2_goesOn_17 : decode cX2_goesOn 17 = .ok (.iload_n 3, 1) := by decide +kernel
theorem dX2_goesOn_18 : decode cX2_goesOn 18 = .ok (.if_icmp .ne 11, 3) := by decide +kernel
theorem dX2_goesOn_21 : decode cX2_goesOn 21 = .ok (.aload_n 0, 1) := by decide +kernel
theorem dX2_goesOn_22 : decode cX2_goesOn 22 = .ok (.iload_n 2, 1) := by decide +kernel
theorem dX2_goesOn_23 : decode cX2_goesOn 23 = .ok (.invokevirtual 58, 3) := by decide +kernel
theorem dX2_goesOn_26 : decode cX2_goesOn 26 = .ok (.ifCond .ne 5, 3) := by decide +kernel
theorem dX2_goesOn_29 : decode cX2_goesOn 29 = .ok (.iconst 0, 1) := by decide +kernel
theorem dX2_goesOn_30 : decode cX2_goesOn 30 = .ok (.ireturn, 1) := by decide +kernel
theorem dX2_goesOn_31 : decode cX2_goesOn 31 = .ok (.iload_n 1, 1) := by decide +kernel
theorem dX2_goesOn_32 : decode cX2_goesOn 32 = .ok (.invokestatic 40, 3) := by decide +kernel
theorem dX2_goesOn_35 : decode cX2_goesOn 35 = .ok (.istore 4, 2) := by decide +kernel
theorem dX2_goesOn_37 : decode cX2_goesOn 37 = .ok (.iload_n 2, 1) := by decide +kernel
theorem dX2_goesOn_38 : decode cX2_goesOn 38 = .ok (.invokestatic 40, 3) := by decide +kernel
theorem dX2_goesOn_41 : decode cX2_goesOn 41 = .ok (.istore 5, 2) := by decide +kernel
theorem dX2_goesOn_43 : decode cX2_goesOn 43 = .ok (.iload 4, 2) := by decide +kernel
theorem dX2_goesOn_45 : decode cX2_goesOn 45 = .ok (.iload 5, 2) := by decide +kernel
theorem dX2_goesOn_47 : decode cX2_goesOn 47 = .ok (.if_icmp .ne 12, 3) := by decide +kernel
theorem dX2_goesOn_50 : decode cX2_goesOn 50 = .ok (.aload_n 0, 1) := by decide +kernel
theorem dX2_goesOn_51 : decode cX2_goesOn 51 = .ok (.getfield 12, 3) := by decide +kernel
theorem dX2_goesOn_54 : decode cX2_goesOn 54 = .ok (.iload_n 3, 1) := by decide +kernel
theorem dX2_goesOn_55 : decode cX2_goesOn 55 = .ok (.invokevirtual 62, 3) := by decide +kernel
theorem dX2_goesOn_58 : decode cX2_goesOn 58 = .ok (.ireturn, 1) := by decide +kernel
theorem dX2_goesOn_59 : decode cX2_goesOn 59 = .ok (.aload_n 0, 1) := by decide +kernel
theorem dX2_goesOn_60 : decode cX2_goesOn 60 = .ok (.getfield 28, 3) := by decide +kernel
theorem dX2_goesOn_63 : decode cX2_goesOn 63 = .ok (.iload 4, 2) := by decide +kernel
theorem dX2_goesOn_65 : decode cX2_goesOn 65 = .ok (.iload 5, 2) := by decide +kernel
theorem dX2_goesOn_67 : decode cX2_goesOn 67 = .ok (.invokevirtual 65, 3) := by decide +kernel
theorem dX2_goesOn_70 : decode cX2_goesOn 70 = .ok (.ifCond .ne 7, 3) := by decide +kernel
theorem dX2_goesOn_73 : decode cX2_goesOn 73 = .ok (.iconst 1, 1) := by decide +kernel
theorem dX2_goesOn_74 : decode cX2_goesOn 74 = .ok (.goto 4, 3) := by decide +kernel
theorem dX2_goesOn_77 : decode cX2_goesOn 77 = .ok (.iconst 0, 1) := by decide +kernel
theorem dX2_goesOn_78 : decode cX2_goesOn 78 = .ok (.ireturn, 1) := by decide +kernel
abbrev rm_xNet_goesOn : Room := { frames := 2, cells := 0, slots := 0, locals := 44 }
def xp_Net_goesOn (u : S4) (x1 : Int32) (x2 : Int32) : Int32 :=
  let r2 : Int32 := xp_Streets_endOf u x1
  let r4 : Int32 := xp_Streets_startOf u x2
  if r4 = r2 then
    let r7 : Int32 := xp_Net_canBeDriven u x2
    if r7 = (0 : Int32) then
      (0 : Int32)
    else
      let r9 : Int32 := xp_O_streetOf u x1
      let r10 : Int32 := xp_O_streetOf u x2
      if r9 = r10 then
        let r16 : Int32 := xp_Nodes_isTurningPlace u r2
        r16
      else
        let r13 : Int32 := xp_Turns_isBarred u r9 r10
        if r13 = (0 : Int32) then
          (1 : Int32)
        else
          (0 : Int32)
  else
    (0 : Int32)
def xq_Net_goesOn (u : S4) (x1 : Int32) (x2 : Int32) : Prop :=
  xq_Streets_endOf u x1 ∧
  let r2 : Int32 := xp_Streets_endOf u x1
  xq_Streets_startOf u x2 ∧
  let r4 : Int32 := xp_Streets_startOf u x2
  (r4 = r2 →
    xq_Net_canBeDriven u x2 ∧
    let r7 : Int32 := xp_Net_canBeDriven u x2
    (¬ r7 = (0 : Int32) →
      let r9 : Int32 := xp_O_streetOf u x1
      let r10 : Int32 := xp_O_streetOf u x2
      ((r9 = r10 →
        xq_Nodes_isTurningPlace u r2 ∧
        let r16 : Int32 := xp_Nodes_isTurningPlace u r2
        vz r16) ∧ (¬ r9 = r10 →
        xq_Turns_isBarred u r9 r10))))
set_option maxHeartbeats 4000000 in
set_option maxRecDepth 100000 in
theorem xc_Net_goesOn (l : Launch) (D : va_G) (a : Nat → Nat) (k3 : K3) (u : S4) (x1 : Int32) (x2 : Int32) (hq : xq_Net_goesOn u x1 x2) : MI l D vwCl (ty3 k3) nestW (xC a k3) yX2_goesOn (kX2_goesOn :: tbG) rm_xNet_goesOn [.ref (a 1), .int x1, .int x2] u (xp_Net_goesOn u x1 x2, u) := by
  refine mkI (cc := cX2_goesOn) (maxL := 6) (ret := (some .boolean)) (by decide) rfl (Nat.le_of_ble_eq_true rfl) ?_
  intro p e s m below meth c A ls F hw hl
  generalize hav : ([.ref (a 1), .int x1, .int x2] : List Value).toArray = av at F ⊢
  have hl : lv_has ls 6 [(0, .ref (a 1)), (1, .int x1), (2, .int x2)] := hl
  obtain ⟨hx, hb, hr, hml, hown, hts, hK, hN, hlocks, hA⟩ := id F
  have hown : s.vm.findClass RX2 = some m.cls := hown
  have htG : ∀ w ∈ tbG, w.before av s = true := fun w h => hts w (List.mem_cons_of_mem _ h)
  have f_21 := htG _ tb_115
  have f_28 := htG _ tb_118
  have f_12 := htG _ tb_113
  have hgo : ∀ P, xp_Net_goesOn u x1 x2 = P → ∀ (H : Heap) (locs : List Loc), wd D vwCl (xC a k3) A s.heap u H locs → W p l e rm_xNet_goesOn s m av below meth c H locs 0 0 (QI below D vwCl (xC a k3) A av s (P, u)) (F0 m 0 ls []) := by
    intro P hP H locs hw
    refine lv_aload_n hx hb dX2_goesOn_0 rfl (lv_at hl 0 rfl) ?_
    refine va_get (D := D) (ci := 2) (v := .ref (a 3)) (C := RX2) (T := TX2) (N := 5) hx hb htG in_2 hown hK hw.1 1 (xo_1 a k3 u) rfl 1 (by decide) f_21 (fun _ h9 => h9) rfl dX2_goesOn_1 ?_
    refine lv_iload_n hx hb dX2_goesOn_4 rfl (lv_at hl 1 rfl) ?_
    obtain ⟨h1, hq⟩ := hq
    let r2 : Int32 := xp_Streets_endOf u x1
    refine call_vir (rest := []) ⟨hx, hb, hml, hown, htG⟩ nestW_ok hK hN hA (xc_Streets_endOf l D a k3 u x1 h1) (cwV 1 htG (tb_V tb_331 tb_332 tb_333 tb_23 tb_334) rfl rfl rfl (by decide +kernel) ⟨Nat.le_of_ble_eq_true rfl, Nat.le_of_ble_eq_true rfl⟩) (ci := 5) rfl (xo_3 a k3 u) rfl hw rfl hl.1 rfl (Nat.le_of_ble_eq_true rfl) dX2_goesOn_5 ⟨Nat.zero_le _, Nat.zero_le _⟩ (fun H locs (hw : wd D vwCl (xC a k3) A s.heap u H locs) => ?_)
    refine lv_istore_n (lv' := [(3, .int r2), (0, .ref (a 1)), (1, .int x1), (2, .int x2)]) hx hb dX2_goesOn_8 rfl hl (by decide) rfl (fun ls hl => ?_)
    refine lv_aload_n hx hb dX2_goesOn_9 rfl (lv_at hl 1 rfl) ?_
    refine va_get (D := D) (ci := 2) (v := .ref (a 3)) (C := RX2) (T := TX2) (N := 5) hx hb htG in_2 hown hK hw.1 1 (xo_1 a k3 u) rfl 1 (by decide) f_21 (fun _ h9 => h9) rfl dX2_goesOn_10 ?_
    refine lv_iload_n hx hb dX2_goesOn_13 rfl (lv_at hl 3 rfl) ?_
    obtain ⟨h3, hq⟩ := hq
    let r4 : Int32 := xp_Streets_startOf u x2
    refine call_vir (rest := []) ⟨hx, hb, hml, hown, htG⟩ nestW_ok hK hN hA (xc_Streets_startOf l D a k3 u x2 h3) (cwV 1 htG (tb_V tb_338 tb_339 tb_340 tb_23 tb_341) rfl rfl rfl (by decide +kernel) ⟨Nat.le_of_ble_eq_true rfl, Nat.le_of_ble_eq_true rfl⟩) (ci := 5) rfl (xo_3 a k3 u) rfl hw rfl hl.1 rfl (Nat.le_of_ble_eq_true rfl) dX2_goesOn_14 ⟨Nat.zero_le _, Nat.zero_le _⟩ (fun H locs (hw : wd D vwCl (xC a k3) A s.heap u H locs) => ?_)
    refine lv_iload_n hx hb dX2_goesOn_17 rfl (lv_at hl 0 rfl) ?_
    refine lv_icmp_ne (tgt := 29) hx hb dX2_goesOn_18 (by decide) (fun c5 => ?_) (fun c5 => ?_)
    · have hP := (if_neg c5).symm.trans hP
      refine lv_iconst (v := 0) hx hb dX2_goesOn_29 (by decide) ?_
      exact ret_z hx hb hr hlocks hw rfl dX2_goesOn_30 (congrArg (fun z => (z, u)) hP)
    · have hP := (if_pos c5).symm.trans hP
      have hq := hq c5
      refine lv_aload_n hx hb dX2_goesOn_21 rfl (lv_at hl 1 rfl) ?_
      refine lv_iload_n hx hb dX2_goesOn_22 rfl (lv_at hl 3 rfl) ?_
      obtain ⟨h6, hq⟩ := hq
      let r7 : Int32 := xp_Net_canBeDriven u x2
      refine call_vir (rest := []) ⟨hx, hb, hml, hown, htG⟩ nestW_ok hK hN hA (xc_Net_canBeDriven l D a k3 u x2 h6) (cwV 1 htG (tb_V tb_342 tb_344 tb_4 tb_21 tb_345) rfl rfl rfl (by decide +kernel) ⟨Nat.le_of_ble_eq_true rfl, Nat.le_of_ble_eq_true rfl⟩) (ci := 2) rfl (xo_1 a k3 u) rfl hw rfl hl.1 rfl (Nat.le_of_ble_eq_true rfl) dX2_goesOn_23 ⟨Nat.zero_le _, Nat.zero_le _⟩ (fun H locs (hw : wd D vwCl (xC a k3) A s.heap u H locs) => ?_)
      refine lv_if_ne (tgt := 31) hx hb dX2_goesOn_26 (by decide) (fun c8 => ?_) (fun c8 => ?_)
      · have hP := (if_neg c8).symm.trans hP
        have hq := hq c8
        refine lv_iload_n hx hb dX2_goesOn_31 rfl (lv_at hl 2 rfl) ?_
        let r9 : Int32 := xp_O_streetOf u x1
        refine call_nir (rest := []) ⟨hx, hb, hml, hown, htG⟩ nestW_ok hK hN hA (xc_O_streetOf l D a k3 u x1) ⟨va_cnB (host := "StreetSides") 1 htG (tb_K tb_337) rfl rfl rfl (hN _ nw_13) (htG _ tb_20) (by decide +kernel) ⟨Nat.le_of_ble_eq_true rfl, Nat.le_of_ble_eq_true rfl⟩, htG _ tb_336, trivial⟩ hw rfl hl.1 rfl (Nat.le_of_ble_eq_true rfl) dX2_goesOn_32 ⟨Nat.zero_le _, Nat.zero_le _⟩ (fun H locs (hw : wd D vwCl (xC a k3) A s.heap u H locs) => ?_)
        refine lv_istore (lv' := [(4, .int r9), (3, .int r2), (0, .ref (a 1)), (1, .int x1), (2, .int x2)]) hx hb dX2_goesOn_35 hl (by decide) rfl (fun ls hl => ?_)
        refine lv_iload_n hx hb dX2_goesOn_37 rfl (lv_at hl 4 rfl) ?_
        let r10 : Int32 := xp_O_streetOf u x2
        refine call_nir (rest := []) ⟨hx, hb, hml, hown, htG⟩ nestW_ok hK hN hA (xc_O_streetOf l D a k3 u x2) ⟨va_cnB (host := "StreetSides") 1 htG (tb_K tb_337) rfl rfl rfl (hN _ nw_13) (htG _ tb_20) (by decide +kernel) ⟨Nat.le_of_ble_eq_true rfl, Nat.le_of_ble_eq_true rfl⟩, htG _ tb_336, trivial⟩ hw rfl hl.1 rfl (Nat.le_of_ble_eq_true rfl) dX2_goesOn_38 ⟨Nat.zero_le _, Nat.zero_le _⟩ (fun H locs (hw : wd D vwCl (xC a k3) A s.heap u H locs) => ?_)
        refine lv_istore (lv' := [(5, .int r10), (4, .int r9), (3, .int r2), (0, .ref (a 1)), (1, .int x1), (2, .int x2)]) hx hb dX2_goesOn_41 hl (by decide) rfl (fun ls hl => ?_)
        refine lv_iload hx hb dX2_goesOn_43 (lv_at hl 1 rfl) ?_
        refine lv_iload hx hb dX2_goesOn_45 (lv_at hl 0 rfl) ?_
        refine lv_icmp_ne (tgt := 59) hx hb dX2_goesOn_47 (by decide) (fun c11 => ?_) (fun c11 => ?_)
        · have hP := (if_neg c11).symm.trans hP
          have hq := hq.2 c11
          refine lv_aload_n hx hb dX2_goesOn_59 rfl (lv_at hl 3 rfl) ?_
          refine va_get (D := D) (ci := 2) (v := .ref (a 4)) (C := RX2) (T := TX2) (N := 5) hx hb htG in_2 hown hK hw.1 1 (xo_1 a k3 u) rfl 2 (by decide) f_28 (fun _ h9 => h9) rfl dX2_goesOn_60 ?_
          refine lv_iload hx hb dX2_goesOn_63 (lv_at hl 1 rfl) ?_
          refine lv_iload hx hb dX2_goesOn_65 (lv_at hl 0 rfl) ?_
          have h12 := hq
          let r13 : Int32 := xp_Turns_isBarred u r9 r10
          refine call_vir (rest := []) ⟨hx, hb, hml, hown, htG⟩ nestW_ok hK hN hA (xc_Turns_isBarred l D a k3 u r9 r10 h12) (cwV 2 htG (tb_V tb_359 tb_360 tb_361 tb_24 tb_362) rfl rfl rfl (by decide +kernel) ⟨Nat.le_of_ble_eq_true rfl, Nat.le_of_ble_eq_true rfl⟩) (ci := 6) rfl (xo_4 a k3 u) rfl hw rfl hl.1 rfl (Nat.le_of_ble_eq_true rfl) dX2_goesOn_67 ⟨Nat.zero_le _, Nat.zero_le _⟩ (fun H locs (hw : wd D vwCl (xC a k3) A s.heap u H locs) => ?_)
          refine lv_if_ne (tgt := 77) hx hb dX2_goesOn_70 (by decide) (fun c14 => ?_) (fun c14 => ?_)
          · have hP := (if_neg c14).symm.trans hP
            refine lv_iconst (v := 0) hx hb dX2_goesOn_77 (by decide) ?_
            exact ret_z hx hb hr hlocks hw rfl dX2_goesOn_78 (congrArg (fun z => (z, u)) hP)
          · have hP := (if_pos c14).symm.trans hP
            refine lv_iconst (v := 1) hx hb dX2_goesOn_73 (by decide) ?_
            refine lv_goto (tgt := 78) hx hb dX2_goesOn_74 (by decide) ?_
            exact ret_z hx hb hr hlocks hw rfl dX2_goesOn_78 (congrArg (fun z => (z, u)) hP)
        · have hP := (if_pos c11).symm.trans hP
          have hq := hq.1 c11
          refine lv_aload_n hx hb dX2_goesOn_50 rfl (lv_at hl 3 rfl) ?_
          refine va_get (D := D) (ci := 2) (v := .ref (a 2)) (C := RX2) (T := TX2) (N := 5) hx hb htG in_2 hown hK hw.1 1 (xo_1 a k3 u) rfl 0 (by decide) f_12 (fun _ h9 => h9) rfl dX2_goesOn_51 ?_
          refine lv_iload_n hx hb dX2_goesOn_54 rfl (lv_at hl 2 rfl) ?_
          obtain ⟨h15, hq⟩ := hq
          let r16 : Int32 := xp_Nodes_isTurningPlace u r2
          refine call_vir (rest := []) ⟨hx, hb, hml, hown, htG⟩ nestW_ok hK hN hA (xc_Nodes_isTurningPlace l D a k3 u r2 h15) (cwV 1 htG (tb_V tb_355 tb_356 tb_357 tb_22 tb_358) rfl rfl rfl (by decide +kernel) ⟨Nat.le_of_ble_eq_true rfl, Nat.le_of_ble_eq_true rfl⟩) (ci := 3) rfl (xo_2 a k3 u) rfl hw rfl hl.1 rfl (Nat.le_of_ble_eq_true rfl) dX2_goesOn_55 ⟨Nat.zero_le _, Nat.zero_le _⟩ (fun H locs (hw : wd D vwCl (xC a k3) A s.heap u H locs) => ?_)
          have h17 := hq
          exact ret_z hx hb hr hlocks hw h17 dX2_goesOn_58 (congrArg (fun z => (z, u)) hP)
      · have hP := (if_pos c8).symm.trans hP
        refine lv_iconst (v := 0) hx hb dX2_goesOn_29 (by decide) ?_
        exact ret_z hx hb hr hlocks hw rfl dX2_goesOn_30 (congrArg (fun z => (z, u)) hP)
  exact hgo _ rfl s.heap [] hw
theorem dX6_secondsOf_0 : decode cX6_secondsOf 0 = .ok (.aload_n 0, 1) := by decide +kernel
theorem dX6_secondsOf_1 : decode cX6_secondsOf 1 = .ok (.getfield 9, 3) := by decide +kernel
theorem dX6_secondsOf_4 : decode cX6_secondsOf 4 = .ok (.iload_n 1, 1) := by decide +kernel
theorem dX6_secondsOf_5 : decode cX6_secondsOf 5 = .ok (.iload_n 2, 1) := by decide +kernel
theorem dX6_secondsOf_6 : decode cX6_secondsOf 6 = .ok (.invokestatic 19, 3) := by decide +kernel
theorem dX6_secondsOf_9 : decode cX6_secondsOf 9 = .ok (.iaload, 1) := by decide +kernel
theorem dX6_secondsOf_10 : decode cX6_secondsOf 10 = .ok (.ireturn, 1) := by decide +kernel
abbrev rm_xTurns_secondsOf : Room := { frames := 1, cells := 0, slots := 0, locals := 21 }
def xp_Turns_secondsOf (u : S4) (x1 : Int32) (x2 : Int32) : Int32 :=
  let r1 : Int32 := xp_Turns_slotOf u x1 x2
  (s4_ra u 8 r1)
def xq_Turns_secondsOf (u : S4) (x1 : Int32) (x2 : Int32) : Prop :=
  let r1 : Int32 := xp_Turns_slotOf u x1 x2
  vp_in r1 144
set_option maxHeartbeats 4000000 in
set_option maxRecDepth 100000 in
theorem xc_Turns_secondsOf (l : Launch) (D : va_G) (a : Nat → Nat) (k3 : K3) (u : S4) (x1 : Int32) (x2 : Int32) (hq : xq_Turns_secondsOf u x1 x2) : MI l D vwCl (ty3 k3) nestW (xC a k3) yX6_secondsOf (kX6_secondsOf :: tbG) rm_xTurns_secondsOf [.ref (a 4), .int x1, .int x2] u (xp_Turns_secondsOf u x1 x2, u) := by
  refine mkI (cc := cX6_secondsOf) (maxL := 3) (ret := (some .int)) (by decide) rfl (Nat.le_of_ble_eq_true rfl) ?_
  intro p e s m below meth c A ls F hw hl
  generalize hav : ([.ref (a 4), .int x1, .int x2] : List Value).toArray = av at F ⊢
  have hl : lv_has ls 3 [(0, .ref (a 4)), (1, .int x1), (2, .int x2)] := hl
  obtain ⟨hx, hb, hr, hml, hown, hts, hK, hN, hlocks, hA⟩ := id F
  have hown : s.vm.findClass RX6 = some m.cls := hown
  have htG : ∀ w ∈ tbG, w.before av s = true := fun w h => hts w (List.mem_cons_of_mem _ h)
  have f_9 := htG _ tb_106
  have hgo : ∀ P, xp_Turns_secondsOf u x1 x2 = P → ∀ (H : Heap) (locs : List Loc), wd D vwCl (xC a k3) A s.heap u H locs → W p l e rm_xTurns_secondsOf s m av below meth c H locs 0 0 (QI below D vwCl (xC a k3) A av s (P, u)) (F0 m 0 ls []) := by
    intro P hP H locs hw
    refine lv_aload_n hx hb dX6_secondsOf_0 rfl (lv_at hl 0 rfl) ?_
    refine va_get (D := D) (ci := 6) (v := .ref (a 21)) (C := RX6) (T := TX6) (N := 2) hx hb htG in_6 hown hK hw.1 4 (xo_4 a k3 u) rfl 0 (by decide) f_9 (fun _ h9 => h9) rfl dX6_secondsOf_1 ?_
    refine lv_iload_n hx hb dX6_secondsOf_4 rfl (lv_at hl 1 rfl) ?_
    refine lv_iload_n hx hb dX6_secondsOf_5 rfl (lv_at hl 2 rfl) ?_
    let r1 : Int32 := xp_Turns_slotOf u x1 x2
    refine call_sir (rest := [.ref (a 21)]) ⟨hx, hb, hml, hown, htG⟩ nestW_ok hK hN hA (xc_Turns_slotOf l D a k3 u x1 x2) (cwS 2 htG (tb_S tb_248 tb_249 tb_24 tb_250) rfl rfl rfl (by decide +kernel) ⟨Nat.le_of_ble_eq_true rfl, Nat.le_of_ble_eq_true rfl⟩) hw rfl hl.1 rfl (Nat.le_of_ble_eq_true rfl) dX6_secondsOf_6 ⟨Nat.zero_le _, Nat.zero_le _⟩ (fun H locs (hw : wd D vwCl (xC a k3) A s.heap u H locs) => ?_)
    have h2 := hq
    refine y_iald (t0 := 0) hx hb hK hw 8 (xo_21 a k3 u) rfl h2 dX6_secondsOf_9 ?_
    exact ret_i hx hb hr hlocks hw dX6_secondsOf_10 (congrArg (fun z => (z, u)) hP)
  exact hgo _ rfl s.heap [] hw
theorem dX5_isClosed_0 : decode cX5_isClosed 0 = .ok (.aload_n 0, 1) := by decide +kernel
theorem dX5_isClosed_1 : decode cX5_isClosed 1 = .ok (.getfield 34, 3) := by decide +kernel
theorem dX5_isClosed_4 : decode cX5_isClosed 4 = .ok (.iload_n 1, 1) := by decide +kernel
theorem dX5_isClosed_5 : decode cX5_isClosed 5 = .ok (.iload_n 2, 1) := by decide +kernel
theorem dX5_isClosed_6 : decode cX5_isClosed 6 = .ok (.invokestatic 52, 3) := by decide +kernel
theorem dX5_isClosed_9 : decode cX5_isClosed 9 = .ok (.laload, 1) := by decide +kernel
theorem dX5_isClosed_10 : decode cX5_isClosed 10 = .ok (.iload_n 2, 1) := by decide +kernel
theorem dX5_isClosed_11 : decode cX5_isClosed 11 = .ok (.invokestatic 56, 3) := by decide +kernel
theorem dX5_isClosed_14 : decode cX5_isClosed 14 = .ok (.land, 1) := by decide +kernel
theorem dX5_isClosed_15 : decode cX5_isClosed 15 = .ok (.lconst 0, 1) := by decide +kernel
theorem dX5_isClosed_16 : decode cX5_isClosed 16 = .ok (.lcmp, 1) := by decide +kernel
theorem dX5_isClosed_17 : decode cX5_isClosed 17 = .ok (.ifCond .eq 7, 3) := by decide +kernel
theorem dX5_isClosed_20 : decode cX5_isClosed 20 = .ok (.iconst 1, 1) := by decide +kernel
theorem dX5_isClosed_21 : decode cX5_isClosed 21 = .ok (.goto 4, 3) := by decide +kernel
theorem dX5_isClosed_24 : decode cX5_isClosed 24 = .ok (.iconst 0, 1) := by decide +kernel
theorem dX5_isClosed_25 : decode cX5_isClosed 25 = .ok (.ireturn, 1) := by decide +kernel
abbrev rm_xStreets_isClosed : Room := { frames := 1, cells := 0, slots := 0, locals := 21 }
def xp_Streets_isClosed (u : S4) (x1 : Int32) (x2 : Int32) : Int32 :=
  let r1 : Int32 := xp_Streets_wordOf u x1 x2
  let r3 : Int64 := xp_Streets_bitOf u x2
  let v4 : Int32 := (lg_cmp ((s4_rb u 4 r1) &&& r3) (0 : Int64))
  if v4 = (0 : Int32) then
    (0 : Int32)
  else
    (1 : Int32)
def xq_Streets_isClosed (u : S4) (x1 : Int32) (x2 : Int32) : Prop :=
  let r1 : Int32 := xp_Streets_wordOf u x1 x2
  vp_in r1 72
set_option maxHeartbeats 4000000 in
set_option maxRecDepth 100000 in
theorem xc_Streets_isClosed (l : Launch) (D : va_G) (a : Nat → Nat) (k3 : K3) (u : S4) (x1 : Int32) (x2 : Int32) (hq : xq_Streets_isClosed u x1 x2) : MI l D vwCl (ty3 k3) nestW (xC a k3) yX5_isClosed (kX5_isClosed :: tbG) rm_xStreets_isClosed [.ref (a 3), .int x1, .int x2] u (xp_Streets_isClosed u x1 x2, u) := by
  refine mkI (cc := cX5_isClosed) (maxL := 3) (ret := (some .boolean)) (by decide) rfl (Nat.le_of_ble_eq_true rfl) ?_
  intro p e s m below meth c A ls F hw hl
  generalize hav : ([.ref (a 3), .int x1, .int x2] : List Value).toArray = av at F ⊢
  have hl : lv_has ls 3 [(0, .ref (a 3)), (1, .int x1), (2, .int x2)] := hl
  obtain ⟨hx, hb, hr, hml, hown, hts, hK, hN, hlocks, hA⟩ := id F
  have hown : s.vm.findClass RX5 = some m.cls := hown
  have htG : ∀ w ∈ tbG, w.before av s = true := fun w h => hts w (List.mem_cons_of_mem _ h)
  have f_34 := htG _ tb_78
  have hgo : ∀ P, xp_Streets_isClosed u x1 x2 = P → ∀ (H : Heap) (locs : List Loc), wd D vwCl (xC a k3) A s.heap u H locs → W p l e rm_xStreets_isClosed s m av below meth c H locs 0 0 (QI below D vwCl (xC a k3) A av s (P, u)) (F0 m 0 ls []) := by
    intro P hP H locs hw
    refine lv_aload_n hx hb dX5_isClosed_0 rfl (lv_at hl 0 rfl) ?_
    refine va_get (D := D) (ci := 5) (v := .ref (a 20)) (C := RX5) (T := TX5) (N := 9) hx hb htG in_5 hown hK hw.1 3 (xo_3 a k3 u) rfl 7 (by decide) f_34 (fun _ h9 => h9) rfl dX5_isClosed_1 ?_
    refine lv_iload_n hx hb dX5_isClosed_4 rfl (lv_at hl 1 rfl) ?_
    refine lv_iload_n hx hb dX5_isClosed_5 rfl (lv_at hl 2 rfl) ?_
    let r1 : Int32 := xp_Streets_wordOf u x1 x2
    refine call_sir (rest := [.ref (a 20)]) ⟨hx, hb, hml, hown, htG⟩ nestW_ok hK hN hA (xc_Streets_wordOf l D a k3 u x1 x2) (cwS 2 htG (tb_S tb_279 tb_280 tb_23 tb_281) rfl rfl rfl (by decide +kernel) ⟨Nat.le_of_ble_eq_true rfl, Nat.le_of_ble_eq_true rfl⟩) hw rfl hl.1 rfl (Nat.le_of_ble_eq_true rfl) dX5_isClosed_6 ⟨Nat.zero_le _, Nat.zero_le _⟩ (fun H locs (hw : wd D vwCl (xC a k3) A s.heap u H locs) => ?_)
    have h2 := hq
    refine y_lald (t0 := 1) hx hb hK hw 4 (xo_20 a k3 u) rfl h2 dX5_isClosed_9 ?_
    refine lv_iload_n hx hb dX5_isClosed_10 rfl (lv_at hl 2 rfl) ?_
    let r3 : Int64 := xp_Streets_bitOf u x2
    refine call_slr (rest := [.long (s4_rb u 4 r1)]) ⟨hx, hb, hml, hown, htG⟩ nestW_ok hK hN hA (xc_Streets_bitOf l D a k3 u x2) (cwS 1 htG (tb_S tb_282 tb_283 tb_23 tb_284) rfl rfl rfl (by decide +kernel) ⟨Nat.le_of_ble_eq_true rfl, Nat.le_of_ble_eq_true rfl⟩) hw rfl hl.1 rfl (Nat.le_of_ble_eq_true rfl) dX5_isClosed_11 ⟨Nat.zero_le _, Nat.zero_le _⟩ (fun H locs (hw : wd D vwCl (xC a k3) A s.heap u H locs) => ?_)
    refine lv_land hx hb dX5_isClosed_14 ?_
    refine lv_lconst (v := 0) hx hb dX5_isClosed_15 (by decide) ?_
    refine W.lcmp hx hb dX5_isClosed_16 ?_
    let v4 : Int32 := (lg_cmp ((s4_rb u 4 r1) &&& r3) (0 : Int64))
    refine lv_if_eq (tgt := 24) hx hb dX5_isClosed_17 (by decide) (fun c5 => ?_) (fun c5 => ?_)
    · have hP := (if_pos c5).symm.trans hP
      refine lv_iconst (v := 0) hx hb dX5_isClosed_24 (by decide) ?_
      exact ret_z hx hb hr hlocks hw rfl dX5_isClosed_25 (congrArg (fun z => (z, u)) hP)
    · have hP := (if_neg c5).symm.trans hP
      refine lv_iconst (v := 1) hx hb dX5_isClosed_20 (by decide) ?_
      refine lv_goto (tgt := 25) hx hb dX5_isClosed_21 (by decide) ?_
      exact ret_z hx hb hr hlocks hw rfl dX5_isClosed_25 (congrArg (fun z => (z, u)) hP)
  exact hgo _ rfl s.heap [] hw
theorem dX5_beginning_0 : decode cX5_beginning 0 = .ok (.iload_n 2, 1) := by decide +kernel
theorem dX5_beginning_1 : decode cX5_beginning 1 = .ok (.ldc 66, 2) := by decide +kernel
theorem dX5_beginning_3 : decode cX5_beginning 3 = .ok (.idiv, 1) := by decide +kernel
theorem dX5_beginning_4 : decode cX5_beginning 4 = .ok (.istore_n 3, 1) := by decide +kernel
theorem dX5_beginning_5 : decode cX5_beginning 5 = .ok (.iload_n 3, 1) := by decide +kernel
theorem dX5_beginning_6 : decode cX5_beginning 6 = .ok (.sipush 366, 3) := by decide +kernel
theorem dX5_beginning_9 : decode cX5_beginning 9 = .ok (.if_icmp .ge 12, 3) := by decide +kernel
theorem dX5_beginning_12 : decode cX5_beginning 12 = .ok (.aload_n 0, 1) := by decide +kernel
theorem dX5_beginning_13 : decode cX5_beginning 13 = .ok (.iload_n 1, 1) := by decide +kernel
theorem dX5_beginning_14 : decode cX5_beginning 14 = .ok (.iload_n 3, 1) := by decide +kernel
theorem dX5_beginning_15 : decode cX5_beginning 15 = .ok (.invokevirtual 67, 3) := by decide +kernel
theorem dX5_beginning_18 : decode cX5_beginning 18 = .ok (.ifCond .eq 5, 3) := by decide +kernel
theorem dX5_beginning_21 : decode cX5_beginning 21 = .ok (.iconst (-1), 1) := by decide +kernel
theorem dX5_beginning_22 : decode cX5_beginning 22 = .ok (.ireturn, 1) := by decide +kernel
theorem dX5_beginning_23 : decode cX5_beginning 23 = .ok (.iload_n 2, 1) := by decide +kernel
theorem dX5_beginning_24 : decode cX5_beginning 24 = .ok (.ldc 66, 2) := by decide +kernel
theorem dX5_beginning_26 : decode cX5_beginning 26 = .ok (.irem, 1) := by decide +kernel
theorem dX5_beginning_27 : decode cX5_beginning 27 = .ok (.istore 4, 2) := by decide +kernel
theorem dX5_beginning_29 : decode cX5_beginning 29 = .ok (.iload 4, 2) := by decide +kernel
theorem dX5_beginning_31 : decode cX5_beginning 31 = .ok (.aload_n 0, 1) := by decide +kernel
theorem dX5_beginning_32 : decode cX5_beginning 32 = .ok (.getfield 27, 3) := by decide +kernel
theorem dX5_beginning_35 : decode cX5_beginning 35 = .ok (.iload_n 1, 1) := by decide +kernel
theorem dX5_beginning_36 : decode cX5_beginning 36 = .ok (.iaload, 1) := by decide +kernel
theorem dX5_beginning_37 : decode cX5_beginning 37 = .ok (.if_icmp .le 5, 3) := by decide +kernel
theorem dX5_beginning_40 : decode cX5_beginning 40 = .ok (.iconst (-1), 1) := by decide +kernel
theorem dX5_beginning_41 : decode cX5_beginning 41 = .ok (.ireturn, 1) := by decide +kernel
theorem dX5_beginning_42 : decode cX5_beginning 42 = .ok (.iconst 0, 1) := by decide +kernel
theorem dX5_beginning_43 : decode cX5_beginning 43 = .ok (.aload_n 0, 1) := by decide +kernel
theorem dX5_beginning_44 : decode cX5_beginning 44 = .ok (.getfield 24, 3) := by decide +kernel
theorem dX5_beginning_47 : decode cX5_beginning 47 = .ok (.iload_n 1, 1) := by decide +kernel
theorem dX5_beginning_48 : decode cX5_beginning 48 = .ok (.iaload, 1) := by decide +kernel
theorem dX5_beginning_49 : decode cX5_beginning 49 = .ok (.iload 4, 2) := by decide +kernel
theorem dX5_beginning_51 : decode cX5_beginning 51 = .ok (.isub, 1) := by decide +kernel
theorem dX5_beginning_52 : decode cX5_beginning 52 = .ok (.invokestatic 71, 3) := by decide +kernel
theorem dX5_beginning_55 : decode cX5_beginning 55 = .ok (.istore 5, 2) := by decide +kernel
theorem dX5_beginning_57 : decode cX5_beginning 57 = .ok (.iload_n 2, 1) := by decide +kernel
theorem dX5_beginning_58 : decode cX5_beginning 58 = .ok (.iload 5, 2) := by decide +kernel
theorem dX5_beginning_60 : decode cX5_beginning 60 = .ok (.iadd, 1) := by decide +kernel
theorem dX5_beginning_61 : decode cX5_beginning 61 = .ok (.ireturn, 1) := by decide +kernel
abbrev rm_xStreets_beginning : Room := { frames := 2, cells := 0, slots := 0, locals := 43 }
def xp_Streets_beginning (u : S4) (x1 : Int32) (x2 : Int32) : Int32 :=
  let v1 : Int32 := (x2 / (86400 : Int32))
  if (366 : Int32) ≤ v1 then
    (-1 : Int32)
  else
    let r4 : Int32 := xp_Streets_isClosed u x1 v1
    if r4 = (0 : Int32) then
      let v6 : Int32 := (x2 - x2 / (86400 : Int32) * (86400 : Int32))
      if v6 ≤ (s4_ra u 7 x1) then
        let v10 : Int32 := (if (0 : Int32) < ((s4_ra u 6 x1) - v6) then ((s4_ra u 6 x1) - v6) else (0 : Int32))
        (x2 + v10)
      else
        (-1 : Int32)
    else
      (-1 : Int32)
def xq_Streets_beginning (u : S4) (x1 : Int32) (x2 : Int32) : Prop :=
  let v1 : Int32 := (x2 / (86400 : Int32))
  (¬ (366 : Int32) ≤ v1 →
    xq_Streets_isClosed u x1 v1 ∧
    let r4 : Int32 := xp_Streets_isClosed u x1 v1
    (r4 = (0 : Int32) →
      let v6 : Int32 := (x2 - x2 / (86400 : Int32) * (86400 : Int32))
      vp_in x1 12 ∧
      (v6 ≤ (s4_ra u 7 x1) →
        vp_in x1 12)))
set_option maxHeartbeats 4000000 in
set_option maxRecDepth 100000 in
theorem xc_Streets_beginning (l : Launch) (D : va_G) (a : Nat → Nat) (k3 : K3) (u : S4) (x1 : Int32) (x2 : Int32) (hq : xq_Streets_beginning u x1 x2) : MI l D vwCl (ty3 k3) nestW (xC a k3) yX5_beginning (kX5_beginning :: tbG) rm_xStreets_beginning [.ref (a 3), .int x1, .int x2] u (xp_Streets_beginning u x1 x2, u) := by
  refine mkI (cc := cX5_beginning) (maxL := 6) (ret := (some .int)) (by decide) rfl (Nat.le_of_ble_eq_true rfl) ?_
  intro p e s m below meth c A ls F hw hl
  generalize hav : ([.ref (a 3), .int x1, .int x2] : List Value).toArray = av at F ⊢
  have hl : lv_has ls 6 [(0, .ref (a 3)), (1, .int x1), (2, .int x2)] := hl
  obtain ⟨hx, hb, hr, hml, hown, hts, hK, hN, hlocks, hA⟩ := id F
  have hown : s.vm.findClass RX5 = some m.cls := hown
  have htG : ∀ w ∈ tbG, w.before av s = true := fun w h => hts w (List.mem_cons_of_mem _ h)
  have k_66 := htG _ tb_371
  have f_27 := htG _ tb_76
  have f_24 := htG _ tb_75
  have mx_1 := htG _ tb_376
  have mx_2 := htG _ tb_377
  have mx_3 := htG _ tb_29
  have mx_4 : (Cond.code Lib.Math.max.name Lib.Math.max.code 2 (some .int)).before av s = true := htG _ tb_378
  have hgo : ∀ P, xp_Streets_beginning u x1 x2 = P → ∀ (H : Heap) (locs : List Loc), wd D vwCl (xC a k3) A s.heap u H locs → W p l e rm_xStreets_beginning s m av below meth c H locs 0 0 (QI below D vwCl (xC a k3) A av s (P, u)) (F0 m 0 ls []) := by
    intro P hP H locs hw
    refine lv_iload_n hx hb dX5_beginning_0 rfl (lv_at hl 2 rfl) ?_
    refine lv_ldc (v := 86400) hx hb hown k_66 dX5_beginning_1 ?_
    refine lv_idiv hx hb dX5_beginning_3 (by decide) ?_
    let v1 : Int32 := (x2 / (86400 : Int32))
    refine lv_istore_n (lv' := [(3, .int v1), (0, .ref (a 3)), (1, .int x1), (2, .int x2)]) hx hb dX5_beginning_4 rfl hl (by decide) rfl (fun ls hl => ?_)
    refine lv_iload_n hx hb dX5_beginning_5 rfl (lv_at hl 0 rfl) ?_
    refine lv_sipush (v := 366) hx hb dX5_beginning_6 (by decide) ?_
    refine lv_icmp_ge (tgt := 21) hx hb dX5_beginning_9 (by decide) (fun c2 => ?_) (fun c2 => ?_)
    · have hP := (if_pos c2).symm.trans hP
      refine lv_iconst (v := -1) hx hb dX5_beginning_21 (by decide) ?_
      exact ret_i hx hb hr hlocks hw dX5_beginning_22 (congrArg (fun z => (z, u)) hP)
    · have hP := (if_neg c2).symm.trans hP
      have hq := hq c2
      refine lv_aload_n hx hb dX5_beginning_12 rfl (lv_at hl 1 rfl) ?_
      refine lv_iload_n hx hb dX5_beginning_13 rfl (lv_at hl 2 rfl) ?_
      refine lv_iload_n hx hb dX5_beginning_14 rfl (lv_at hl 0 rfl) ?_
      obtain ⟨h3, hq⟩ := hq
      let r4 : Int32 := xp_Streets_isClosed u x1 v1
      refine call_vir (rest := []) ⟨hx, hb, hml, hown, htG⟩ nestW_ok hK hN hA (xc_Streets_isClosed l D a k3 u x1 v1 h3) (cwV 2 htG (tb_V tb_372 tb_374 tb_5 tb_23 tb_375) rfl rfl rfl (by decide +kernel) ⟨Nat.le_of_ble_eq_true rfl, Nat.le_of_ble_eq_true rfl⟩) (ci := 5) rfl (xo_3 a k3 u) rfl hw rfl hl.1 rfl (Nat.le_of_ble_eq_true rfl) dX5_beginning_15 ⟨Nat.zero_le _, Nat.zero_le _⟩ (fun H locs (hw : wd D vwCl (xC a k3) A s.heap u H locs) => ?_)
      refine lv_if_eq (tgt := 23) hx hb dX5_beginning_18 (by decide) (fun c5 => ?_) (fun c5 => ?_)
      · have hP := (if_pos c5).symm.trans hP
        have hq := hq c5
        refine lv_iload_n hx hb dX5_beginning_23 rfl (lv_at hl 3 rfl) ?_
        refine lv_ldc (v := 86400) hx hb hown k_66 dX5_beginning_24 ?_
        refine lv_irem hx hb dX5_beginning_26 (by decide) ?_
        let v6 : Int32 := (x2 - x2 / (86400 : Int32) * (86400 : Int32))
        refine lv_istore (lv' := [(4, .int v6), (3, .int v1), (0, .ref (a 3)), (1, .int x1), (2, .int x2)]) hx hb dX5_beginning_27 hl (by decide) rfl (fun ls hl => ?_)
        refine lv_iload hx hb dX5_beginning_29 (lv_at hl 0 rfl) ?_
        refine lv_aload_n hx hb dX5_beginning_31 rfl (lv_at hl 2 rfl) ?_
        refine va_get (D := D) (ci := 5) (v := .ref (a 18)) (C := RX5) (T := TX5) (N := 9) hx hb htG in_5 hown hK hw.1 3 (xo_3 a k3 u) rfl 5 (by decide) f_27 (fun _ h9 => h9) rfl dX5_beginning_32 ?_
        refine lv_iload_n hx hb dX5_beginning_35 rfl (lv_at hl 3 rfl) ?_
        obtain ⟨h7, hq⟩ := hq
        refine y_iald (t0 := 0) hx hb hK hw 7 (xo_18 a k3 u) rfl h7 dX5_beginning_36 ?_
        refine lv_icmp_le (tgt := 42) hx hb dX5_beginning_37 (by decide) (fun c8 => ?_) (fun c8 => ?_)
        · have hP := (if_pos c8).symm.trans hP
          have hq := hq c8
          refine lv_iconst (v := 0) hx hb dX5_beginning_42 (by decide) ?_
          refine lv_aload_n hx hb dX5_beginning_43 rfl (lv_at hl 2 rfl) ?_
          refine va_get (D := D) (ci := 5) (v := .ref (a 17)) (C := RX5) (T := TX5) (N := 9) hx hb htG in_5 hown hK hw.1 3 (xo_3 a k3 u) rfl 4 (by decide) f_24 (fun _ h9 => h9) rfl dX5_beginning_44 ?_
          refine lv_iload_n hx hb dX5_beginning_47 rfl (lv_at hl 3 rfl) ?_
          have h9 := hq
          refine y_iald (t0 := 0) hx hb hK hw 6 (xo_17 a k3 u) rfl h9 dX5_beginning_48 ?_
          refine lv_iload hx hb dX5_beginning_49 (lv_at hl 0 rfl) ?_
          refine lv_isub hx hb dX5_beginning_51 ?_
          refine va_mmax hx hb (hml.trans hl.1.symm) hown mx_1 mx_2 mx_3 mx_4 (Nat.le_of_ble_eq_true rfl) (Nat.le_of_ble_eq_true rfl) (Nat.zero_le _) (Nat.zero_le _) dX5_beginning_52 ?_
          let v10 : Int32 := (if (0 : Int32) < ((s4_ra u 6 x1) - v6) then ((s4_ra u 6 x1) - v6) else (0 : Int32))
          refine lv_istore (lv' := [(5, .int v10), (4, .int v6), (3, .int v1), (0, .ref (a 3)), (1, .int x1), (2, .int x2)]) hx hb dX5_beginning_55 hl (by decide) rfl (fun ls hl => ?_)
          refine lv_iload_n hx hb dX5_beginning_57 rfl (lv_at hl 5 rfl) ?_
          refine lv_iload hx hb dX5_beginning_58 (lv_at hl 0 rfl) ?_
          refine lv_iadd hx hb dX5_beginning_60 ?_
          exact ret_i hx hb hr hlocks hw dX5_beginning_61 (congrArg (fun z => (z, u)) hP)
        · have hP := (if_neg c8).symm.trans hP
          refine lv_iconst (v := -1) hx hb dX5_beginning_40 (by decide) ?_
          exact ret_i hx hb hr hlocks hw dX5_beginning_41 (congrArg (fun z => (z, u)) hP)
      · have hP := (if_neg c5).symm.trans hP
        refine lv_iconst (v := -1) hx hb dX5_beginning_21 (by decide) ?_
        exact ret_i hx hb hr hlocks hw dX5_beginning_22 (congrArg (fun z => (z, u)) hP)
  exact hgo _ rfl s.heap [] hw
theorem dX5_secondsOf_0 : decode cX5_secondsOf 0 = .ok (.aload_n 0, 1) := by decide +kernel
theorem dX5_secondsOf_1 : decode cX5_secondsOf 1 = .ok (.getfield 18, 3) := by decide +kernel
theorem dX5_secondsOf_4 : decode cX5_secondsOf 4 = .ok (.iload_n 1, 1) := by decide +kernel
theorem dX5_secondsOf_5 : decode cX5_secondsOf 5 = .ok (.iaload, 1) := by decide +kernel
theorem dX5_secondsOf_6 : decode cX5_secondsOf 6 = .ok (.ireturn, 1) := by decide +kernel
abbrev rm_xStreets_secondsOf : Room := { frames := 0, cells := 0, slots := 0, locals := 0 }
def xp_Streets_secondsOf (u : S4) (x1 : Int32) : Int32 :=
  (s4_ra u 4 x1)
def xq_Streets_secondsOf (u : S4) (x1 : Int32) : Prop :=
  vp_in x1 12
set_option maxHeartbeats 4000000 in
set_option maxRecDepth 100000 in
theorem xc_Streets_secondsOf (l : Launch) (D : va_G) (a : Nat → Nat) (k3 : K3) (u : S4) (x1 : Int32) (hq : xq_Streets_secondsOf u x1) : MI l D vwCl (ty3 k3) nestW (xC a k3) yX5_secondsOf (kX5_secondsOf :: tbG) rm_xStreets_secondsOf [.ref (a 3), .int x1] u (xp_Streets_secondsOf u x1, u) := by
  refine mkI (cc := cX5_secondsOf) (maxL := 2) (ret := (some .int)) (by decide) rfl (Nat.le_of_ble_eq_true rfl) ?_
  intro p e s m below meth c A ls F hw hl
  generalize hav : ([.ref (a 3), .int x1] : List Value).toArray = av at F ⊢
  have hl : lv_has ls 2 [(0, .ref (a 3)), (1, .int x1)] := hl
  obtain ⟨hx, hb, hr, hml, hown, hts, hK, hN, hlocks, hA⟩ := id F
  have hown : s.vm.findClass RX5 = some m.cls := hown
  have htG : ∀ w ∈ tbG, w.before av s = true := fun w h => hts w (List.mem_cons_of_mem _ h)
  have f_18 := htG _ tb_73
  have hgo : ∀ P, xp_Streets_secondsOf u x1 = P → ∀ (H : Heap) (locs : List Loc), wd D vwCl (xC a k3) A s.heap u H locs → W p l e rm_xStreets_secondsOf s m av below meth c H locs 0 0 (QI below D vwCl (xC a k3) A av s (P, u)) (F0 m 0 ls []) := by
    intro P hP H locs hw
    refine lv_aload_n hx hb dX5_secondsOf_0 rfl (lv_at hl 0 rfl) ?_
    refine va_get (D := D) (ci := 5) (v := .ref (a 15)) (C := RX5) (T := TX5) (N := 9) hx hb htG in_5 hown hK hw.1 3 (xo_3 a k3 u) rfl 2 (by decide) f_18 (fun _ h9 => h9) rfl dX5_secondsOf_1 ?_
    refine lv_iload_n hx hb dX5_secondsOf_4 rfl (lv_at hl 1 rfl) ?_
    have h1 := hq
    refine y_iald (t0 := 0) hx hb hK hw 4 (xo_15 a k3 u) rfl h1 dX5_secondsOf_5 ?_
    exact ret_i hx hb hr hlocks hw dX5_secondsOf_6 (congrArg (fun z => (z, u)) hP)
  exact hgo _ rfl s.heap [] hw
theorem dX2_endBehind_0 : decode cX2_endBehind 0 = .ok (.aload_n 0, 1) := by decide +kernel
theorem dX2_endBehind_1 : decode cX2_endBehind 1 = .ok (.iload_n 1, 1) := by decide +kernel
theorem dX2_endBehind_2 : decode cX2_endBehind 2 = .ok (.iload_n 2, 1) := by decide +kernel
theorem dX2_endBehind_3 : decode cX2_endBehind 3 = .ok (.invokevirtual 68, 3) := by decide +kernel
theorem dX2_endBehind_6 : decode cX2_endBehind 6 = .ok (.ifCond .ne 5, 3) := by decide +kernel
theorem dX2_endBehind_9 : decode cX2_endBehind 9 = .ok (.iconst (-1), 1) := by decide +kernel
theorem dX2_endBehind_10 : decode cX2_endBehind 10 = .ok (.ireturn, 1) := by decide +kernel
theorem dX2_endBehind_11 : decode cX2_endBehind 11 = .ok (.iload_n 2, 1) := by decide +kernel
theorem dX2_endBehind_12 : decode cX2_endBehind 12 = .ok (.invokestatic 40, 3) := by decide +kernel
theorem dX2_endBehind_15 : decode cX2_endBehind 15 = .ok (.istore 4, 2) := by decide +kernel
theorem dX2_endBehind_17 : decode cX2_endBehind 17 = .ok (.iload_n 3, 1) := by decide +kernel
theorem dX2_endBehind_18 : decode cX2_endBehind 18 = .ok (.aload_n 0, 1) := by decide +kernel
theorem dX2_endBehind_19 : decode cX2_endBehind 19 = .ok (.getfield 28, 3) := by decide +kernel
theorem dX2_endBehind_22 : decode cX2_endBehind 22 = .ok (.iload_n 1, 1) := by decide +kernel
theorem dX2_endBehind_23 : decode cX2_endBehind 23 = .ok (.invokestatic 40, 3) := by decide +kernel
theorem dX2_endBehind_26 : decode cX2_endBehind 26 = .ok (.iload 4, 2) := by decide +kernel
theorem dX2_endBehind_28 : decode cX2_endBehind 28 = .ok (.invokevirtual 71, 3) := by decide +kernel
theorem dX2_endBehind_31 : decode cX2_endBehind 31 = .ok (.iadd, 1) := by decide +kernel
theorem dX2_endBehind_32 : decode cX2_endBehind 32 = .ok (.istore 5, 2) := by decide +kernel
theorem dX2_endBehind_34 : decode cX2_endBehind 34 = .ok (.aload_n 0, 1) := by decide +kernel
theorem dX2_endBehind_35 : decode cX2_endBehind 35 = .ok (.getfield 21, 3) := by decide +kernel
theorem dX2_endBehind_38 : decode cX2_endBehind 38 = .ok (.iload 4, 2) := by decide +kernel
theorem dX2_endBehind_40 : decode cX2_endBehind 40 = .ok (.iload 5, 2) := by decide +kernel
theorem dX2_endBehind_42 : decode cX2_endBehind 42 = .ok (.invokevirtual 75, 3) := by decide +kernel
theorem dX2_endBehind_45 : decode cX2_endBehind 45 = .ok (.istore 6, 2) := by decide +kernel
theorem dX2_endBehind_47 : decode cX2_endBehind 47 = .ok (.iload 6, 2) := by decide +kernel
theorem dX2_endBehind_49 : decode cX2_endBehind 49 = .ok (.iconst (-1), 1) := by decide +kernel
theorem dX2_endBehind_50 : decode cX2_endBehind 50 = .ok (.if_icmp .ne 7, 3) := by decide +kernel
theorem dX2_endBehind_53 : decode cX2_endBehind 53 = .ok (.iconst (-1), 1) := by decide +kernel
theorem dX2_endBehind_54 : decode cX2_endBehind 54 = .ok (.goto 15, 3) := by decide +kernel
theorem dX2_endBehind_57 : decode cX2_endBehind 57 = .ok (.iload 6, 2) := by decide +kernel
theorem dX2_endBehind_59 : decode cX2_endBehind 59 = .ok (.aload_n 0, 1) := by decide +kernel
theorem dX2_endBehind_60 : decode cX2_endBehind 60 = .ok (.getfield 21, 3) := by decide +kernel
theorem dX2_endBehind_63 : decode cX2_endBehind 63 = .ok (.iload 4, 2) := by decide +kernel
theorem dX2_endBehind_65 : decode cX2_endBehind 65 = .ok (.invokevirtual 78, 3) := by decide +kernel
theorem dX2_endBehind_68 : decode cX2_endBehind 68 = .ok (.iadd, 1) := by decide +kernel
theorem dX2_endBehind_69 : decode cX2_endBehind 69 = .ok (.ireturn, 1) := by decide +kernel
abbrev rm_xNet_endBehind : Room := { frames := 3, cells := 0, slots := 0, locals := 69 }
def xp_Net_endBehind (u : S4) (x1 : Int32) (x2 : Int32) (x3 : Int32) : Int32 :=
  let r2 : Int32 := xp_Net_goesOn u x1 x2
  if r2 = (0 : Int32) then
    (-1 : Int32)
  else
    let r4 : Int32 := xp_O_streetOf u x2
    let r5 : Int32 := xp_O_streetOf u x1
    let r7 : Int32 := xp_Turns_secondsOf u r5 r4
    let v8 : Int32 := (x3 + r7)
    let r10 : Int32 := xp_Streets_beginning u r4 v8
    if r10 = (-1 : Int32) then
      (-1 : Int32)
    else
      let r13 : Int32 := xp_Streets_secondsOf u r4
      (r10 + r13)
def xq_Net_endBehind (u : S4) (x1 : Int32) (x2 : Int32) (x3 : Int32) : Prop :=
  xq_Net_goesOn u x1 x2 ∧
  let r2 : Int32 := xp_Net_goesOn u x1 x2
  (¬ r2 = (0 : Int32) →
    let r4 : Int32 := xp_O_streetOf u x2
    let r5 : Int32 := xp_O_streetOf u x1
    xq_Turns_secondsOf u r5 r4 ∧
    let r7 : Int32 := xp_Turns_secondsOf u r5 r4
    let v8 : Int32 := (x3 + r7)
    xq_Streets_beginning u r4 v8 ∧
    let r10 : Int32 := xp_Streets_beginning u r4 v8
    (¬ r10 = (-1 : Int32) →
      xq_Streets_secondsOf u r4))
set_option maxHeartbeats 4000000 in
set_option maxRecDepth 100000 in
theorem xc_Net_endBehind (l : Launch) (D : va_G) (a : Nat → Nat) (k3 : K3) (u : S4) (x1 : Int32) (x2 : Int32) (x3 : Int32) (hq : xq_Net_endBehind u x1 x2 x3) : MI l D vwCl (ty3 k3) nestW (xC a k3) yX2_endBehind (kX2_endBehind :: tbG) rm_xNet_endBehind [.ref (a 1), .int x1, .int x2, .int x3] u (xp_Net_endBehind u x1 x2 x3, u) := by
  refine mkI (cc := cX2_endBehind) (maxL := 7) (ret := (some .int)) (by decide) rfl (Nat.le_of_ble_eq_true rfl) ?_
  intro p e s m below meth c A ls F hw hl
  generalize hav : ([.ref (a 1), .int x1, .int x2, .int x3] : List Value).toArray = av at F ⊢
  have hl : lv_has ls 7 [(0, .ref (a 1)), (1, .int x1), (2, .int x2), (3, .int x3)] := hl
  obtain ⟨hx, hb, hr, hml, hown, hts, hK, hN, hlocks, hA⟩ := id F
  have hown : s.vm.findClass RX2 = some m.cls := hown
  have htG : ∀ w ∈ tbG, w.before av s = true := fun w h => hts w (List.mem_cons_of_mem _ h)
  have f_28 := htG _ tb_118
  have f_21 := htG _ tb_115
  have hgo : ∀ P, xp_Net_endBehind u x1 x2 x3 = P → ∀ (H : Heap) (locs : List Loc), wd D vwCl (xC a k3) A s.heap u H locs → W p l e rm_xNet_endBehind s m av below meth c H locs 0 0 (QI below D vwCl (xC a k3) A av s (P, u)) (F0 m 0 ls []) := by
    intro P hP H locs hw
    refine lv_aload_n hx hb dX2_endBehind_0 rfl (lv_at hl 0 rfl) ?_
    refine lv_iload_n hx hb dX2_endBehind_1 rfl (lv_at hl 1 rfl) ?_
    refine lv_iload_n hx hb dX2_endBehind_2 rfl (lv_at hl 2 rfl) ?_
    obtain ⟨h1, hq⟩ := hq
    let r2 : Int32 := xp_Net_goesOn u x1 x2
    refine call_vir (rest := []) ⟨hx, hb, hml, hown, htG⟩ nestW_ok hK hN hA (xc_Net_goesOn l D a k3 u x1 x2 h1) (cwV 2 htG (tb_V tb_327 tb_328 tb_329 tb_21 tb_330) rfl rfl rfl (by decide +kernel) ⟨Nat.le_of_ble_eq_true rfl, Nat.le_of_ble_eq_true rfl⟩) (ci := 2) rfl (xo_1 a k3 u) rfl hw rfl hl.1 rfl (Nat.le_of_ble_eq_true rfl) dX2_endBehind_3 ⟨Nat.zero_le _, Nat.zero_le _⟩ (fun H locs (hw : wd D vwCl (xC a k3) A s.heap u H locs) => ?_)
    refine lv_if_ne (tgt := 11) hx hb dX2_endBehind_6 (by decide) (fun c3 => ?_) (fun c3 => ?_)
    · have hP := (if_neg c3).symm.trans hP
      have hq := hq c3
      refine lv_iload_n hx hb dX2_endBehind_11 rfl (lv_at hl 2 rfl) ?_
      let r4 : Int32 := xp_O_streetOf u x2
      refine call_nir (rest := []) ⟨hx, hb, hml, hown, htG⟩ nestW_ok hK hN hA (xc_O_streetOf l D a k3 u x2) ⟨va_cnB (host := "StreetSides") 1 htG (tb_K tb_337) rfl rfl rfl (hN _ nw_13) (htG _ tb_20) (by decide +kernel) ⟨Nat.le_of_ble_eq_true rfl, Nat.le_of_ble_eq_true rfl⟩, htG _ tb_336, trivial⟩ hw rfl hl.1 rfl (Nat.le_of_ble_eq_true rfl) dX2_endBehind_12 ⟨Nat.zero_le _, Nat.zero_le _⟩ (fun H locs (hw : wd D vwCl (xC a k3) A s.heap u H locs) => ?_)
      refine lv_istore (lv' := [(4, .int r4), (0, .ref (a 1)), (1, .int x1), (2, .int x2), (3, .int x3)]) hx hb dX2_endBehind_15 hl (by decide) rfl (fun ls hl => ?_)
      refine lv_iload_n hx hb dX2_endBehind_17 rfl (lv_at hl 4 rfl) ?_
      refine lv_aload_n hx hb dX2_endBehind_18 rfl (lv_at hl 1 rfl) ?_
      refine va_get (D := D) (ci := 2) (v := .ref (a 4)) (C := RX2) (T := TX2) (N := 5) hx hb htG in_2 hown hK hw.1 1 (xo_1 a k3 u) rfl 2 (by decide) f_28 (fun _ h9 => h9) rfl dX2_endBehind_19 ?_
      refine lv_iload_n hx hb dX2_endBehind_22 rfl (lv_at hl 2 rfl) ?_
      let r5 : Int32 := xp_O_streetOf u x1
      refine call_nir (rest := [.ref (a 4), .int x3]) ⟨hx, hb, hml, hown, htG⟩ nestW_ok hK hN hA (xc_O_streetOf l D a k3 u x1) ⟨va_cnB (host := "StreetSides") 1 htG (tb_K tb_337) rfl rfl rfl (hN _ nw_13) (htG _ tb_20) (by decide +kernel) ⟨Nat.le_of_ble_eq_true rfl, Nat.le_of_ble_eq_true rfl⟩, htG _ tb_336, trivial⟩ hw rfl hl.1 rfl (Nat.le_of_ble_eq_true rfl) dX2_endBehind_23 ⟨Nat.zero_le _, Nat.zero_le _⟩ (fun H locs (hw : wd D vwCl (xC a k3) A s.heap u H locs) => ?_)
      refine lv_iload hx hb dX2_endBehind_26 (lv_at hl 0 rfl) ?_
      obtain ⟨h6, hq⟩ := hq
      let r7 : Int32 := xp_Turns_secondsOf u r5 r4
      refine call_vir (rest := [.int x3]) ⟨hx, hb, hml, hown, htG⟩ nestW_ok hK hN hA (xc_Turns_secondsOf l D a k3 u r5 r4 h6) (cwV 2 htG (tb_V tb_363 tb_364 tb_365 tb_24 tb_366) rfl rfl rfl (by decide +kernel) ⟨Nat.le_of_ble_eq_true rfl, Nat.le_of_ble_eq_true rfl⟩) (ci := 6) rfl (xo_4 a k3 u) rfl hw rfl hl.1 rfl (Nat.le_of_ble_eq_true rfl) dX2_endBehind_28 ⟨Nat.zero_le _, Nat.zero_le _⟩ (fun H locs (hw : wd D vwCl (xC a k3) A s.heap u H locs) => ?_)
      refine lv_iadd hx hb dX2_endBehind_31 ?_
      let v8 : Int32 := (x3 + r7)
      refine lv_istore (lv' := [(5, .int v8), (4, .int r4), (0, .ref (a 1)), (1, .int x1), (2, .int x2), (3, .int x3)]) hx hb dX2_endBehind_32 hl (by decide) rfl (fun ls hl => ?_)
      refine lv_aload_n hx hb dX2_endBehind_34 rfl (lv_at hl 2 rfl) ?_
      refine va_get (D := D) (ci := 2) (v := .ref (a 3)) (C := RX2) (T := TX2) (N := 5) hx hb htG in_2 hown hK hw.1 1 (xo_1 a k3 u) rfl 1 (by decide) f_21 (fun _ h9 => h9) rfl dX2_endBehind_35 ?_
      refine lv_iload hx hb dX2_endBehind_38 (lv_at hl 1 rfl) ?_
      refine lv_iload hx hb dX2_endBehind_40 (lv_at hl 0 rfl) ?_
      obtain ⟨h9, hq⟩ := hq
      let r10 : Int32 := xp_Streets_beginning u r4 v8
      refine call_vir (rest := []) ⟨hx, hb, hml, hown, htG⟩ nestW_ok hK hN hA (xc_Streets_beginning l D a k3 u r4 v8 h9) (cwV 2 htG (tb_V tb_367 tb_368 tb_369 tb_23 tb_370) rfl rfl rfl (by decide +kernel) ⟨Nat.le_of_ble_eq_true rfl, Nat.le_of_ble_eq_true rfl⟩) (ci := 5) rfl (xo_3 a k3 u) rfl hw rfl hl.1 rfl (Nat.le_of_ble_eq_true rfl) dX2_endBehind_42 ⟨Nat.zero_le _, Nat.zero_le _⟩ (fun H locs (hw : wd D vwCl (xC a k3) A s.heap u H locs) => ?_)
      refine lv_istore (lv' := [(6, .int r10), (5, .int v8), (4, .int r4), (0, .ref (a 1)), (1, .int x1), (2, .int x2), (3, .int x3)]) hx hb dX2_endBehind_45 hl (by decide) rfl (fun ls hl => ?_)
      refine lv_iload hx hb dX2_endBehind_47 (lv_at hl 0 rfl) ?_
      refine lv_iconst (v := -1) hx hb dX2_endBehind_49 (by decide) ?_
      refine lv_icmp_ne (tgt := 57) hx hb dX2_endBehind_50 (by decide) (fun c11 => ?_) (fun c11 => ?_)
      · have hP := (if_neg c11).symm.trans hP
        have hq := hq c11
        refine lv_iload hx hb dX2_endBehind_57 (lv_at hl 0 rfl) ?_
        refine lv_aload_n hx hb dX2_endBehind_59 rfl (lv_at hl 3 rfl) ?_
        refine va_get (D := D) (ci := 2) (v := .ref (a 3)) (C := RX2) (T := TX2) (N := 5) hx hb htG in_2 hown hK hw.1 1 (xo_1 a k3 u) rfl 1 (by decide) f_21 (fun _ h9 => h9) rfl dX2_endBehind_60 ?_
        refine lv_iload hx hb dX2_endBehind_63 (lv_at hl 2 rfl) ?_
        have h12 := hq
        let r13 : Int32 := xp_Streets_secondsOf u r4
        refine call_vir (rest := [.int r10]) ⟨hx, hb, hml, hown, htG⟩ nestW_ok hK hN hA (xc_Streets_secondsOf l D a k3 u r4 h12) (cwV 1 htG (tb_V tb_379 tb_380 tb_381 tb_23 tb_382) rfl rfl rfl (by decide +kernel) ⟨Nat.le_of_ble_eq_true rfl, Nat.le_of_ble_eq_true rfl⟩) (ci := 5) rfl (xo_3 a k3 u) rfl hw rfl hl.1 rfl (Nat.le_of_ble_eq_true rfl) dX2_endBehind_65 ⟨Nat.zero_le _, Nat.zero_le _⟩ (fun H locs (hw : wd D vwCl (xC a k3) A s.heap u H locs) => ?_)
        refine lv_iadd hx hb dX2_endBehind_68 ?_
        exact ret_i hx hb hr hlocks hw dX2_endBehind_69 (congrArg (fun z => (z, u)) hP)
      · have hP := (if_pos c11).symm.trans hP
        refine lv_iconst (v := -1) hx hb dX2_endBehind_53 (by decide) ?_
        refine lv_goto (tgt := 69) hx hb dX2_endBehind_54 (by decide) ?_
        exact ret_i hx hb hr hlocks hw dX2_endBehind_69 (congrArg (fun z => (z, u)) hP)
    · have hP := (if_pos c3).symm.trans hP
      refine lv_iconst (v := -1) hx hb dX2_endBehind_9 (by decide) ?_
      exact ret_i hx hb hr hlocks hw dX2_endBehind_10 (congrArg (fun z => (z, u)) hP)
  exact hgo _ rfl s.heap [] hw
