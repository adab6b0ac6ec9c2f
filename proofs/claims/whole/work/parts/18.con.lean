theorem dX8_canBeDriven_0 : decode cX8_canBeDriven 0 = .ok (.iload_n 1, 1) := by decide +kernel
theorem dX8_canBeDriven_1 : decode cX8_canBeDriven 1 = .ok (.iconst 2, 1) := by decide +kernel
theorem dX8_canBeDriven_2 : decode cX8_canBeDriven 2 = .ok (.idiv, 1) := by decide +kernel
theorem dX8_canBeDriven_3 : decode cX8_canBeDriven 3 = .ok (.istore_n 2, 1) := by decide +kernel
theorem dX8_canBeDriven_4 : decode cX8_canBeDriven 4 = .ok (.aload_n 0, 1) := by decide +kernel
theorem dX8_canBeDriven_5 : decode cX8_canBeDriven 5 = .ok (.getfield 29, 3) := by decide +kernel
theorem dX8_canBeDriven_8 : decode cX8_canBeDriven 8 = .ok (.iload_n 2, 1) := by decide +kernel
theorem dX8_canBeDriven_9 : decode cX8_canBeDriven 9 = .ok (.iaload, 1) := by decide +kernel
theorem dX8_canBeDriven_10 : decode cX8_canBeDriven 10 = .ok (.ifCond .eq 36, 3) := by decide +kernel
theorem dX8_canBeDriven_13 : decode cX8_canBeDriven 13 = .ok (.aload_n 0, 1) := by decide +kernel
theorem dX8_canBeDriven_14 : decode cX8_canBeDriven 14 = .ok (.getfield 29, 3) := by decide +kernel
theorem dX8_canBeDriven_17 : decode cX8_canBeDriven 17 = .ok (.iload_n 2, 1) := by decide +kernel
theorem dX8_canBeDriven_18 : decode cX8_canBeDriven 18 = .ok (.iaload, 1) := by decide +kernel
theorem dX8_canBeDriven_19 : decode cX8_canBeDriven 19 = .ok (.iconst 1, 1) := by decide +kernel
theorem dX8_canBeDriven_20 : decode cX8_canBeDriven 20 = .ok (.if_icmp .ne 9, 3) := by decide +kernel
theorem dX8_canBeDriven_23 : decode cX8_canBeDriven 23 = .ok (.iload_n 1, 1) := by decide +kernel
theorem dX8_canBeDriven_24 : decode cX8_canBeDriven 24 = .ok (.iconst 2, 1) := by decide +kernel
theorem dX8_canBeDriven_25 : decode cX8_canBeDriven 25 = .ok (.irem, 1) := by decide +kernel
theorem dX8_canBeDriven_26 : decode cX8_canBeDriven 26 = .ok (.ifCond .eq 20, 3) := by decide +kernel
theorem dX8_canBeDriven_29 : decode cX8_canBeDriven 29 = .ok (.aload_n 0, 1) := by decide +kernel
theorem dX8_canBeDriven_30 : decode cX8_canBeDriven 30 = .ok (.getfield 29, 3) := by decide +kernel
theorem dX8_canBeDriven_33 : decode cX8_canBeDriven 33 = .ok (.iload_n 2, 1) := by decide +kernel
theorem dX8_canBeDriven_34 : decode cX8_canBeDriven 34 = .ok (.iaload, 1) := by decide +kernel
theorem dX8_canBeDriven_35 : decode cX8_canBeDriven 35 = .ok (.iconst 2, 1) := by decide +kernel
theorem dX8_canBeDriven_36 : decode cX8_canBeDriven 36 = .ok (.if_icmp .ne 14, 3) := by decide +kernel
theorem dX8_canBeDriven_39 : decode cX8_canBeDriven 39 = .ok (.iload_n 1, 1) := by decide +kernel
theorem dX8_canBeDriven_40 : decode cX8_canBeDriven 40 = .ok (.iconst 2, 1) := by decide +kernel
theorem dX8_canBeDriven_41 : decode cX8_canBeDriven 41 = .ok (.irem, 1) := by decide +kernel
theorem dX8_canBeDriven_42 : decode cX8_canBeDriven 42 = .ok (.iconst 1, 1) := by decide +kernel
theorem dX8_canBeDriven_43 : decode cX8_canBeDriven 43 = .ok (.if_icmp .ne 7, 3) := by decide +kernel
theorem dX8_canBeDriven_46 : decode cX8_canBeDriven 46 = .ok (.iconst 1, 1) := by decide +kernel
theorem dX8_canBeDriven_47 : decode cX8_canBeDriven 47 = .ok (.goto 4, 3) := by decide +kernel
theorem dX8_canBeDriven_50 : decode cX8_canBeDriven 50 = .ok (.iconst 0, 1) := by decide +kernel
theorem dX8_canBeDriven_51 : decode cX8_canBeDriven 51 = .ok (.istore_n 3, 1) := by decide +kernel
theorem dX8_canBeDriven_52 : decode cX8_canBeDriven 52 = .ok (.iload_n 3, 1) := by decide +kernel
theorem dX8_canBeDriven_53 : decode cX8_canBeDriven 53 = .ok (.ifCond .eq 35, 3) := by decide +kernel
theorem dX8_canBeDriven_56 : decode cX8_canBeDriven 56 = .ok (.aload_n 0, 1) := by decide +kernel
theorem dX8_canBeDriven_57 : decode cX8_canBeDriven 57 = .ok (.getfield 113, 3) := by decide +kernel
theorem dX8_canBeDriven_60 : decode cX8_canBeDriven 60 = .ok (.aload_n 0, 1) := by decide +kernel
theorem dX8_canBeDriven_61 : decode cX8_canBeDriven 61 = .ok (.getfield 32, 3) := by decide +kernel
theorem dX8_canBeDriven_64 : decode cX8_canBeDriven 64 = .ok (.iload_n 2, 1) := by decide +kernel
theorem dX8_canBeDriven_65 : decode cX8_canBeDriven 65 = .ok (.laload, 1) := by decide +kernel
theorem dX8_canBeDriven_66 : decode cX8_canBeDriven 66 = .ok (.lcmp, 1) := by decide +kernel
theorem dX8_canBeDriven_67 : decode cX8_canBeDriven 67 = .ok (.ifCond .gt 21, 3) := by decide +kernel
theorem dX8_canBeDriven_70 : decode cX8_canBeDriven 70 = .ok (.aload_n 0, 1) := by decide +kernel
theorem dX8_canBeDriven_71 : decode cX8_canBeDriven 71 = .ok (.getfield 117, 3) := by decide +kernel
theorem dX8_canBeDriven_74 : decode cX8_canBeDriven 74 = .ok (.aload_n 0, 1) := by decide +kernel
theorem dX8_canBeDriven_75 : decode cX8_canBeDriven 75 = .ok (.getfield 36, 3) := by decide +kernel
theorem dX8_canBeDriven_78 : decode cX8_canBeDriven 78 = .ok (.iload_n 2, 1) := by decide +kernel
theorem dX8_canBeDriven_79 : decode cX8_canBeDriven 79 = .ok (.laload, 1) := by decide +kernel
theorem dX8_canBeDriven_80 : decode cX8_canBeDriven 80 = .ok (.lcmp, 1) := by decide +kernel
theorem dX8_canBeDriven_81 : decode cX8_canBeDriven 81 = .ok (.ifCond .gt 7, 3) := by decide +kernel
theorem dX8_canBeDriven_84 : decode cX8_canBeDriven 84 = .ok (.iconst 1, 1) := by decide +kernel
theorem dX8_canBeDriven_85 : decode cX8_canBeDriven 85 = .ok (.goto 4, 3) := by decide +kernel
theorem dX8_canBeDriven_88 : decode cX8_canBeDriven 88 = .ok (.iconst 0, 1) := by decide +kernel
theorem dX8_canBeDriven_89 : decode cX8_canBeDriven 89 = .ok (.ireturn, 1) := by decide +kernel
abbrev rm_mM_canBeDriven : Room := { frames := 0, cells := 0, slots := 0, locals := 0 }
def mp_M_canBeDriven (u : S4) (x1 : Int32) : Int32 :=
  let v1 : Int32 := (x1 / (2 : Int32))
  if (s4_ra u 6 v1) = (0 : Int32) then
    if (0 : Int32) < (lg_cmp (s4_l u 0) (s4_rb u 0 v1)) then
      (0 : Int32)
    else
      if (0 : Int32) < (lg_cmp (s4_l u 1) (s4_rb u 1 v1)) then
        (0 : Int32)
      else
        (1 : Int32)
  else
    if (s4_ra u 6 v1) = (1 : Int32) then
      if (x1 - x1 / (2 : Int32) * (2 : Int32)) = (0 : Int32) then
        if (0 : Int32) < (lg_cmp (s4_l u 0) (s4_rb u 0 v1)) then
          (0 : Int32)
        else
          if (0 : Int32) < (lg_cmp (s4_l u 1) (s4_rb u 1 v1)) then
            (0 : Int32)
          else
            (1 : Int32)
      else
        if (s4_ra u 6 v1) = (2 : Int32) then
          if (x1 - x1 / (2 : Int32) * (2 : Int32)) = (1 : Int32) then
            if (0 : Int32) < (lg_cmp (s4_l u 0) (s4_rb u 0 v1)) then
              (0 : Int32)
            else
              if (0 : Int32) < (lg_cmp (s4_l u 1) (s4_rb u 1 v1)) then
                (0 : Int32)
              else
                (1 : Int32)
          else
            (0 : Int32)
        else
          (0 : Int32)
    else
      if (s4_ra u 6 v1) = (2 : Int32) then
        if (x1 - x1 / (2 : Int32) * (2 : Int32)) = (1 : Int32) then
          if (0 : Int32) < (lg_cmp (s4_l u 0) (s4_rb u 0 v1)) then
            (0 : Int32)
          else
            if (0 : Int32) < (lg_cmp (s4_l u 1) (s4_rb u 1 v1)) then
              (0 : Int32)
            else
              (1 : Int32)
        else
          (0 : Int32)
      else
        (0 : Int32)
def mq_M_canBeDriven (u : S4) (x1 : Int32) : Prop :=
  let v1 : Int32 := (x1 / (2 : Int32))
  vp_in v1 12 ∧
  (((s4_ra u 6 v1) = (0 : Int32) →
    vp_in v1 12 ∧
    (¬ (0 : Int32) < (lg_cmp (s4_l u 0) (s4_rb u 0 v1)) →
      vp_in v1 12)) ∧ (¬ (s4_ra u 6 v1) = (0 : Int32) →
    vp_in v1 12 ∧
    (((s4_ra u 6 v1) = (1 : Int32) →
      (((x1 - x1 / (2 : Int32) * (2 : Int32)) = (0 : Int32) →
        vp_in v1 12 ∧
        (¬ (0 : Int32) < (lg_cmp (s4_l u 0) (s4_rb u 0 v1)) →
          vp_in v1 12)) ∧ (¬ (x1 - x1 / (2 : Int32) * (2 : Int32)) = (0 : Int32) →
        vp_in v1 12 ∧
        ((s4_ra u 6 v1) = (2 : Int32) →
          ((x1 - x1 / (2 : Int32) * (2 : Int32)) = (1 : Int32) →
            vp_in v1 12 ∧
            (¬ (0 : Int32) < (lg_cmp (s4_l u 0) (s4_rb u 0 v1)) →
              vp_in v1 12)))))) ∧ (¬ (s4_ra u 6 v1) = (1 : Int32) →
      vp_in v1 12 ∧
      ((s4_ra u 6 v1) = (2 : Int32) →
        ((x1 - x1 / (2 : Int32) * (2 : Int32)) = (1 : Int32) →
          vp_in v1 12 ∧
          (¬ (0 : Int32) < (lg_cmp (s4_l u 0) (s4_rb u 0 v1)) →
            vp_in v1 12)))))))
set_option maxHeartbeats 4000000 in
set_option maxRecDepth 100000 in
theorem mc_M_canBeDriven (l : Launch) (D : va_G) (a : Nat → Nat) (k3 : K3) (u : S4) (x1 : Int32) (hq : mq_M_canBeDriven u x1) : MI l D vwCl (ty3 k3) nestW (mC a k3) yX8_canBeDriven (kX8_canBeDriven :: tbG) rm_mM_canBeDriven [.ref (a 0), .int x1] u (mp_M_canBeDriven u x1, u) := by
  refine mkI (cc := cX8_canBeDriven) (maxL := 4) (ret := (some .boolean)) (by decide) rfl (Nat.le_of_ble_eq_true rfl) ?_
  intro p e s m below meth c A ls F hw hl
  generalize hav : ([.ref (a 0), .int x1] : List Value).toArray = av at F ⊢
  have hl : lv_has ls 4 [(0, .ref (a 0)), (1, .int x1)] := hl
  obtain ⟨hx, hb, hr, hml, hown, hts, hK, hN, hlocks, hA⟩ := id F
  have hown : s.vm.findClass RX8 = some m.cls := hown
  have htG : ∀ w ∈ tbG, w.before av s = true := fun w h => hts w (List.mem_cons_of_mem _ h)
  have f_29 := htG _ tb_522
  have f_113 := htG _ tb_525
  have f_32 := htG _ tb_523
  have f_117 := htG _ tb_526
  have f_36 := htG _ tb_524
  have hgo : ∀ P, mp_M_canBeDriven u x1 = P → ∀ (H : Heap) (locs : List Loc), wd D vwCl (mC a k3) A s.heap u H locs → W p l e rm_mM_canBeDriven s m av below meth c H locs 0 0 (QI below D vwCl (mC a k3) A av s (P, u)) (F0 m 0 ls []) := by
    intro P hP H locs hw
    refine lv_iload_n hx hb dX8_canBeDriven_0 rfl (lv_at hl 1 rfl) ?_
    refine lv_iconst (v := 2) hx hb dX8_canBeDriven_1 (by decide) ?_
    refine lv_idiv hx hb dX8_canBeDriven_2 (by decide) ?_
    let v1 : Int32 := (x1 / (2 : Int32))
    refine lv_istore_n (lv' := [(2, .int v1), (0, .ref (a 0)), (1, .int x1)]) hx hb dX8_canBeDriven_3 rfl hl (by decide) rfl (fun ls hl => ?_)
    refine lv_aload_n hx hb dX8_canBeDriven_4 rfl (lv_at hl 1 rfl) ?_
    refine va_get (D := D) (ci := 8) (v := .ref (a 7)) (C := RX8) (T := TX8) (N := 28) hx hb htG in_8 hown hK hw.1 0 (mo_0 a k3 u) rfl 8 (by decide) f_29 (fun _ h9 => h9) rfl dX8_canBeDriven_5 ?_
    refine lv_iload_n hx hb dX8_canBeDriven_8 rfl (lv_at hl 0 rfl) ?_
    obtain ⟨h2, hq⟩ := hq
    refine y_iald (t0 := 0) hx hb hK hw 6 (mo_7 a k3 u) rfl h2 dX8_canBeDriven_9 ?_
    refine lv_if_eq (tgt := 46) hx hb dX8_canBeDriven_10 (by decide) (fun c3 => ?_) (fun c3 => ?_)
    · have hP := (if_pos c3).symm.trans hP
      have hq := hq.1 c3
      refine lv_iconst (v := 1) hx hb dX8_canBeDriven_46 (by decide) ?_
      refine lv_goto (tgt := 51) hx hb dX8_canBeDriven_47 (by decide) ?_
      refine lv_istore_n (lv' := [(3, .int (1 : Int32)), (2, .int v1), (0, .ref (a 0)), (1, .int x1)]) hx hb dX8_canBeDriven_51 rfl hl (by decide) rfl (fun ls hl => ?_)
      refine lv_iload_n hx hb dX8_canBeDriven_52 rfl (lv_at hl 0 rfl) ?_
      refine lv_if_eq (tgt := 88) hx hb dX8_canBeDriven_53 (by decide) (fun c4 => absurd c4 (show ¬ (1 : Int32) = (0 : Int32) by decide)) (fun _ => ?_)
      refine lv_aload_n hx hb dX8_canBeDriven_56 rfl (lv_at hl 2 rfl) ?_
      refine va_get (D := D) (ci := 8) (v := .long (s4_l u 0)) (C := RX8) (T := TX8) (N := 28) hx hb htG in_8 hown hK hw.1 0 (mo_0 a k3 u) rfl 11 (by decide) f_113 (fun _ h9 => h9) rfl dX8_canBeDriven_57 ?_
      refine lv_aload_n hx hb dX8_canBeDriven_60 rfl (lv_at hl 2 rfl) ?_
      refine va_get (D := D) (ci := 8) (v := .ref (a 8)) (C := RX8) (T := TX8) (N := 28) hx hb htG in_8 hown hK hw.1 0 (mo_0 a k3 u) rfl 9 (by decide) f_32 (fun _ h9 => h9) rfl dX8_canBeDriven_61 ?_
      refine lv_iload_n hx hb dX8_canBeDriven_64 rfl (lv_at hl 1 rfl) ?_
      obtain ⟨h5, hq⟩ := hq
      refine y_lald (t0 := 1) hx hb hK hw 0 (mo_8 a k3 u) rfl h5 dX8_canBeDriven_65 ?_
      refine W.lcmp hx hb dX8_canBeDriven_66 ?_
      refine lv_if_gt (tgt := 88) hx hb dX8_canBeDriven_67 (by decide) (fun c6 => ?_) (fun c6 => ?_)
      · have hP := (if_pos c6).symm.trans hP
        refine lv_iconst (v := 0) hx hb dX8_canBeDriven_88 (by decide) ?_
        exact ret_z hx hb hr hlocks hw rfl dX8_canBeDriven_89 (congrArg (fun z => (z, u)) hP)
      · have hP := (if_neg c6).symm.trans hP
        have hq := hq c6
        refine lv_aload_n hx hb dX8_canBeDriven_70 rfl (lv_at hl 2 rfl) ?_
        refine va_get (D := D) (ci := 8) (v := .long (s4_l u 1)) (C := RX8) (T := TX8) (N := 28) hx hb htG in_8 hown hK hw.1 0 (mo_0 a k3 u) rfl 12 (by decide) f_117 (fun _ h9 => h9) rfl dX8_canBeDriven_71 ?_
        refine lv_aload_n hx hb dX8_canBeDriven_74 rfl (lv_at hl 2 rfl) ?_
        refine va_get (D := D) (ci := 8) (v := .ref (a 9)) (C := RX8) (T := TX8) (N := 28) hx hb htG in_8 hown hK hw.1 0 (mo_0 a k3 u) rfl 10 (by decide) f_36 (fun _ h9 => h9) rfl dX8_canBeDriven_75 ?_
        refine lv_iload_n hx hb dX8_canBeDriven_78 rfl (lv_at hl 1 rfl) ?_
        have h7 := hq
        refine y_lald (t0 := 1) hx hb hK hw 1 (mo_9 a k3 u) rfl h7 dX8_canBeDriven_79 ?_
        refine W.lcmp hx hb dX8_canBeDriven_80 ?_
        refine lv_if_gt (tgt := 88) hx hb dX8_canBeDriven_81 (by decide) (fun c8 => ?_) (fun c8 => ?_)
        · have hP := (if_pos c8).symm.trans hP
          refine lv_iconst (v := 0) hx hb dX8_canBeDriven_88 (by decide) ?_
          exact ret_z hx hb hr hlocks hw rfl dX8_canBeDriven_89 (congrArg (fun z => (z, u)) hP)
        · have hP := (if_neg c8).symm.trans hP
          refine lv_iconst (v := 1) hx hb dX8_canBeDriven_84 (by decide) ?_
          refine lv_goto (tgt := 89) hx hb dX8_canBeDriven_85 (by decide) ?_
          exact ret_z hx hb hr hlocks hw rfl dX8_canBeDriven_89 (congrArg (fun z => (z, u)) hP)
    · have hP := (if_neg c3).symm.trans hP
      have hq := hq.2 c3
      refine lv_aload_n hx hb dX8_canBeDriven_13 rfl (lv_at hl 1 rfl) ?_
      refine va_get (D := D) (ci := 8) (v := .ref (a 7)) (C := RX8) (T := TX8) (N := 28) hx hb htG in_8 hown hK hw.1 0 (mo_0 a k3 u) rfl 8 (by decide) f_29 (fun _ h9 => h9) rfl dX8_canBeDriven_14 ?_
      refine lv_iload_n hx hb dX8_canBeDriven_17 rfl (lv_at hl 0 rfl) ?_
      obtain ⟨h9, hq⟩ := hq
      refine y_iald (t0 := 0) hx hb hK hw 6 (mo_7 a k3 u) rfl h9 dX8_canBeDriven_18 ?_
      refine lv_iconst (v := 1) hx hb dX8_canBeDriven_19 (by decide) ?_
      refine lv_icmp_ne (tgt := 29) hx hb dX8_canBeDriven_20 (by decide) (fun c10 => ?_) (fun c10 => ?_)
      · have hP := (if_neg c10).symm.trans hP
        have hq := hq.2 c10
        refine lv_aload_n hx hb dX8_canBeDriven_29 rfl (lv_at hl 1 rfl) ?_
        refine va_get (D := D) (ci := 8) (v := .ref (a 7)) (C := RX8) (T := TX8) (N := 28) hx hb htG in_8 hown hK hw.1 0 (mo_0 a k3 u) rfl 8 (by decide) f_29 (fun _ h9 => h9) rfl dX8_canBeDriven_30 ?_
        refine lv_iload_n hx hb dX8_canBeDriven_33 rfl (lv_at hl 0 rfl) ?_
        obtain ⟨h11, hq⟩ := hq
        refine y_iald (t0 := 0) hx hb hK hw 6 (mo_7 a k3 u) rfl h11 dX8_canBeDriven_34 ?_
        refine lv_iconst (v := 2) hx hb dX8_canBeDriven_35 (by decide) ?_
        refine lv_icmp_ne (tgt := 50) hx hb dX8_canBeDriven_36 (by decide) (fun c12 => ?_) (fun c12 => ?_)
        · have hP := (if_neg c12).symm.trans hP
          refine lv_iconst (v := 0) hx hb dX8_canBeDriven_50 (by decide) ?_
          refine lv_istore_n (lv' := [(3, .int (0 : Int32)), (2, .int v1), (0, .ref (a 0)), (1, .int x1)]) hx hb dX8_canBeDriven_51 rfl hl (by decide) rfl (fun ls hl => ?_)
          refine lv_iload_n hx hb dX8_canBeDriven_52 rfl (lv_at hl 0 rfl) ?_
          refine lv_if_eq (tgt := 88) hx hb dX8_canBeDriven_53 (by decide) (fun _ => ?_) (fun c13 => absurd (show (0 : Int32) = (0 : Int32) by decide) c13)
          refine lv_iconst (v := 0) hx hb dX8_canBeDriven_88 (by decide) ?_
          exact ret_z hx hb hr hlocks hw rfl dX8_canBeDriven_89 (congrArg (fun z => (z, u)) hP)
        · have hP := (if_pos c12).symm.trans hP
          have hq := hq c12
          refine lv_iload_n hx hb dX8_canBeDriven_39 rfl (lv_at hl 2 rfl) ?_
          refine lv_iconst (v := 2) hx hb dX8_canBeDriven_40 (by decide) ?_
          refine lv_irem hx hb dX8_canBeDriven_41 (by decide) ?_
          refine lv_iconst (v := 1) hx hb dX8_canBeDriven_42 (by decide) ?_
          refine lv_icmp_ne (tgt := 50) hx hb dX8_canBeDriven_43 (by decide) (fun c14 => ?_) (fun c14 => ?_)
          · have hP := (if_neg c14).symm.trans hP
            refine lv_iconst (v := 0) hx hb dX8_canBeDriven_50 (by decide) ?_
            refine lv_istore_n (lv' := [(3, .int (0 : Int32)), (2, .int v1), (0, .ref (a 0)), (1, .int x1)]) hx hb dX8_canBeDriven_51 rfl hl (by decide) rfl (fun ls hl => ?_)
            refine lv_iload_n hx hb dX8_canBeDriven_52 rfl (lv_at hl 0 rfl) ?_
            refine lv_if_eq (tgt := 88) hx hb dX8_canBeDriven_53 (by decide) (fun _ => ?_) (fun c15 => absurd (show (0 : Int32) = (0 : Int32) by decide) c15)
            refine lv_iconst (v := 0) hx hb dX8_canBeDriven_88 (by decide) ?_
            exact ret_z hx hb hr hlocks hw rfl dX8_canBeDriven_89 (congrArg (fun z => (z, u)) hP)
          · have hP := (if_pos c14).symm.trans hP
            have hq := hq c14
            refine lv_iconst (v := 1) hx hb dX8_canBeDriven_46 (by decide) ?_
            refine lv_goto (tgt := 51) hx hb dX8_canBeDriven_47 (by decide) ?_
            refine lv_istore_n (lv' := [(3, .int (1 : Int32)), (2, .int v1), (0, .ref (a 0)), (1, .int x1)]) hx hb dX8_canBeDriven_51 rfl hl (by decide) rfl (fun ls hl => ?_)
            refine lv_iload_n hx hb dX8_canBeDriven_52 rfl (lv_at hl 0 rfl) ?_
            refine lv_if_eq (tgt := 88) hx hb dX8_canBeDriven_53 (by decide) (fun c16 => absurd c16 (show ¬ (1 : Int32) = (0 : Int32) by decide)) (fun _ => ?_)
            refine lv_aload_n hx hb dX8_canBeDriven_56 rfl (lv_at hl 2 rfl) ?_
            refine va_get (D := D) (ci := 8) (v := .long (s4_l u 0)) (C := RX8) (T := TX8) (N := 28) hx hb htG in_8 hown hK hw.1 0 (mo_0 a k3 u) rfl 11 (by decide) f_113 (fun _ h9 => h9) rfl dX8_canBeDriven_57 ?_
            refine lv_aload_n hx hb dX8_canBeDriven_60 rfl (lv_at hl 2 rfl) ?_
            refine va_get (D := D) (ci := 8) (v := .ref (a 8)) (C := RX8) (T := TX8) (N := 28) hx hb htG in_8 hown hK hw.1 0 (mo_0 a k3 u) rfl 9 (by decide) f_32 (fun _ h9 => h9) rfl dX8_canBeDriven_61 ?_
            refine lv_iload_n hx hb dX8_canBeDriven_64 rfl (lv_at hl 1 rfl) ?_
            obtain ⟨h17, hq⟩ := hq
            refine y_lald (t0 := 1) hx hb hK hw 0 (mo_8 a k3 u) rfl h17 dX8_canBeDriven_65 ?_
            refine W.lcmp hx hb dX8_canBeDriven_66 ?_
            refine lv_if_gt (tgt := 88) hx hb dX8_canBeDriven_67 (by decide) (fun c18 => ?_) (fun c18 => ?_)
            · have hP := (if_pos c18).symm.trans hP
              refine lv_iconst (v := 0) hx hb dX8_canBeDriven_88 (by decide) ?_
              exact ret_z hx hb hr hlocks hw rfl dX8_canBeDriven_89 (congrArg (fun z => (z, u)) hP)
            · have hP := (if_neg c18).symm.trans hP
              have hq := hq c18
              refine lv_aload_n hx hb dX8_canBeDriven_70 rfl (lv_at hl 2 rfl) ?_
              refine va_get (D := D) (ci := 8) (v := .long (s4_l u 1)) (C := RX8) (T := TX8) (N := 28) hx hb htG in_8 hown hK hw.1 0 (mo_0 a k3 u) rfl 12 (by decide) f_117 (fun _ h9 => h9) rfl dX8_canBeDriven_71 ?_
              refine lv_aload_n hx hb dX8_canBeDriven_74 rfl (lv_at hl 2 rfl) ?_
              refine va_get (D := D) (ci := 8) (v := .ref (a 9)) (C := RX8) (T := TX8) (N := 28) hx hb htG in_8 hown hK hw.1 0 (mo_0 a k3 u) rfl 10 (by decide) f_36 (fun _ h9 => h9) rfl dX8_canBeDriven_75 ?_
              refine lv_iload_n hx hb dX8_canBeDriven_78 rfl (lv_at hl 1 rfl) ?_
              have h19 := hq
              refine y_lald (t0 := 1) hx hb hK hw 1 (mo_9 a k3 u) rfl h19 dX8_canBeDriven_79 ?_
              refine W.lcmp hx hb dX8_canBeDriven_80 ?_
              refine lv_if_gt (tgt := 88) hx hb dX8_canBeDriven_81 (by decide) (fun c20 => ?_) (fun c20 => ?_)
              · have hP := (if_pos c20).symm.trans hP
                refine lv_iconst (v := 0) hx hb dX8_canBeDriven_88 (by decide) ?_
                exact ret_z hx hb hr hlocks hw rfl dX8_canBeDriven_89 (congrArg (fun z => (z, u)) hP)
              · have hP := (if_neg c20).symm.trans hP
                refine lv_iconst (v := 1) hx hb dX8_canBeDriven_84 (by decide) ?_
                refine lv_goto (tgt := 89) hx hb dX8_canBeDriven_85 (by decide) ?_
                exact ret_z hx hb hr hlocks hw rfl dX8_canBeDriven_89 (congrArg (fun z => (z, u)) hP)
      · have hP := (if_pos c10).symm.trans hP
        have hq := hq.1 c10
        refine lv_iload_n hx hb dX8_canBeDriven_23 rfl (lv_at hl 2 rfl) ?_
        refine lv_iconst (v := 2) hx hb dX8_canBeDriven_24 (by decide) ?_
        refine lv_irem hx hb dX8_canBeDriven_25 (by decide) ?_
        refine lv_if_eq (tgt := 46) hx hb dX8_canBeDriven_26 (by decide) (fun c21 => ?_) (fun c21 => ?_)
        · have hP := (if_pos c21).symm.trans hP
          have hq := hq.1 c21
          refine lv_iconst (v := 1) hx hb dX8_canBeDriven_46 (by decide) ?_
          refine lv_goto (tgt := 51) hx hb dX8_canBeDriven_47 (by decide) ?_
          refine lv_istore_n (lv' := [(3, .int (1 : Int32)), (2, .int v1), (0, .ref (a 0)), (1, .int x1)]) hx hb dX8_canBeDriven_51 rfl hl (by decide) rfl (fun ls hl => ?_)
          refine lv_iload_n hx hb dX8_canBeDriven_52 rfl (lv_at hl 0 rfl) ?_
          refine lv_if_eq (tgt := 88) hx hb dX8_canBeDriven_53 (by decide) (fun c22 => absurd c22 (show ¬ (1 : Int32) = (0 : Int32) by decide)) (fun _ => ?_)
          refine lv_aload_n hx hb dX8_canBeDriven_56 rfl (lv_at hl 2 rfl) ?_
          refine va_get (D := D) (ci := 8) (v := .long (s4_l u 0)) (C := RX8) (T := TX8) (N := 28) hx hb htG in_8 hown hK hw.1 0 (mo_0 a k3 u) rfl 11 (by decide) f_113 (fun _ h9 => h9) rfl dX8_canBeDriven_57 ?_
          refine lv_aload_n hx hb dX8_canBeDriven_60 rfl (lv_at hl 2 rfl) ?_
          refine va_get (D := D) (ci := 8) (v := .ref (a 8)) (C := RX8) (T := TX8) (N := 28) hx hb htG in_8 hown hK hw.1 0 (mo_0 a k3 u) rfl 9 (by decide) f_32 (fun _ h9 => h9) rfl dX8_canBeDriven_61 ?_
          refine lv_iload_n hx hb dX8_canBeDriven_64 rfl (lv_at hl 1 rfl) ?_
          obtain ⟨h23, hq⟩ := hq
          refine y_lald (t0 := 1) hx hb hK hw 0 (mo_8 a k3 u) rfl h23 dX8_canBeDriven_65 ?_
          refine W.lcmp hx hb dX8_canBeDriven_66 ?_
          refine lv_if_gt (tgt := 88) hx hb dX8_canBeDriven_67 (by decide) (fun c24 => ?_) (fun c24 => ?_)
          · have hP := (if_pos c24).symm.trans hP
            refine lv_iconst (v := 0) hx hb dX8_canBeDriven_88 (by decide) ?_
            exact ret_z hx hb hr hlocks hw rfl dX8_canBeDriven_89 (congrArg (fun z => (z, u)) hP)
          · have hP := (if_neg c24).symm.trans hP
            have hq := hq c24
            refine lv_aload_n hx hb dX8_canBeDriven_70 rfl (lv_at hl 2 rfl) ?_
            refine va_get (D := D) (ci := 8) (v := .long (s4_l u 1)) (C := RX8) (T := TX8) (N := 28) hx hb htG in_8 hown hK hw.1 0 (mo_0 a k3 u) rfl 12 (by decide) f_117 (fun _ h9 => h9) rfl dX8_canBeDriven_71 ?_
            refine lv_aload_n hx hb dX8_canBeDriven_74 rfl (lv_at hl 2 rfl) ?_
            refine va_get (D := D) (ci := 8) (v := .ref (a 9)) (C := RX8) (T := TX8) (N := 28) hx hb htG in_8 hown hK hw.1 0 (mo_0 a k3 u) rfl 10 (by decide) f_36 (fun _ h9 => h9) rfl dX8_canBeDriven_75 ?_
            refine lv_iload_n hx hb dX8_canBeDriven_78 rfl (lv_at hl 1 rfl) ?_
            have h25 := hq
            refine y_lald (t0 := 1) hx hb hK hw 1 (mo_9 a k3 u) rfl h25 dX8_canBeDriven_79 ?_
            refine W.lcmp hx hb dX8_canBeDriven_80 ?_
            refine lv_if_gt (tgt := 88) hx hb dX8_canBeDriven_81 (by decide) (fun c26 => ?_) (fun c26 => ?_)
            · have hP := (if_pos c26).symm.trans hP
              refine lv_iconst (v := 0) hx hb dX8_canBeDriven_88 (by decide) ?_
              exact ret_z hx hb hr hlocks hw rfl dX8_canBeDriven_89 (congrArg (fun z => (z, u)) hP)
            · have hP := (if_neg c26).symm.trans hP
              refine lv_iconst (v := 1) hx hb dX8_canBeDriven_84 (by decide) ?_
              refine lv_goto (tgt := 89) hx hb dX8_canBeDriven_85 (by decide) ?_
              exact ret_z hx hb hr hlocks hw rfl dX8_canBeDriven_89 (congrArg (fun z => (z, u)) hP)
        · have hP := (if_neg c21).symm.trans hP
          have hq := hq.2 c21
          refine lv_aload_n hx hb dX8_canBeDriven_29 rfl (lv_at hl 1 rfl) ?_
          refine va_get (D := D) (ci := 8) (v := .ref (a 7)) (C := RX8) (T := TX8) (N := 28) hx hb htG in_8 hown hK hw.1 0 (mo_0 a k3 u) rfl 8 (by decide) f_29 (fun _ h9 => h9) rfl dX8_canBeDriven_30 ?_
          refine lv_iload_n hx hb dX8_canBeDriven_33 rfl (lv_at hl 0 rfl) ?_
          obtain ⟨h27, hq⟩ := hq
          refine y_iald (t0 := 0) hx hb hK hw 6 (mo_7 a k3 u) rfl h27 dX8_canBeDriven_34 ?_
          refine lv_iconst (v := 2) hx hb dX8_canBeDriven_35 (by decide) ?_
          refine lv_icmp_ne (tgt := 50) hx hb dX8_canBeDriven_36 (by decide) (fun c28 => ?_) (fun c28 => ?_)
          · have hP := (if_neg c28).symm.trans hP
            refine lv_iconst (v := 0) hx hb dX8_canBeDriven_50 (by decide) ?_
            refine lv_istore_n (lv' := [(3, .int (0 : Int32)), (2, .int v1), (0, .ref (a 0)), (1, .int x1)]) hx hb dX8_canBeDriven_51 rfl hl (by decide) rfl (fun ls hl => ?_)
            refine lv_iload_n hx hb dX8_canBeDriven_52 rfl (lv_at hl 0 rfl) ?_
            refine lv_if_eq (tgt := 88) hx hb dX8_canBeDriven_53 (by decide) (fun _ => ?_) (fun c29 => absurd (show (0 : Int32) = (0 : Int32) by decide) c29)
            refine lv_iconst (v := 0) hx hb dX8_canBeDriven_88 (by decide) ?_
            exact ret_z hx hb hr hlocks hw rfl dX8_canBeDriven_89 (congrArg (fun z => (z, u)) hP)
          · have hP := (if_pos c28).symm.trans hP
            have hq := hq c28
            refine lv_iload_n hx hb dX8_canBeDriven_39 rfl (lv_at hl 2 rfl) ?_
            refine lv_iconst (v := 2) hx hb dX8_canBeDriven_40 (by decide) ?_
            refine lv_irem hx hb dX8_canBeDriven_41 (by decide) ?_
            refine lv_iconst (v := 1) hx hb dX8_canBeDriven_42 (by decide) ?_
            refine lv_icmp_ne (tgt := 50) hx hb dX8_canBeDriven_43 (by decide) (fun c30 => ?_) (fun c30 => ?_)
            · have hP := (if_neg c30).symm.trans hP
              refine lv_iconst (v := 0) hx hb dX8_canBeDriven_50 (by decide) ?_
              refine lv_istore_n (lv' := [(3, .int (0 : Int32)), (2, .int v1), (0, .ref (a 0)), (1, .int x1)]) hx hb dX8_canBeDriven_51 rfl hl (by decide) rfl (fun ls hl => ?_)
              refine lv_iload_n hx hb dX8_canBeDriven_52 rfl (lv_at hl 0 rfl) ?_
              refine lv_if_eq (tgt := 88) hx hb dX8_canBeDriven_53 (by decide) (fun _ => ?_) (fun c31 => absurd (show (0 : Int32) = (0 : Int32) by decide) c31)
              refine lv_iconst (v := 0) hx hb dX8_canBeDriven_88 (by decide) ?_
              exact ret_z hx hb hr hlocks hw rfl dX8_canBeDriven_89 (congrArg (fun z => (z, u)) hP)
            · have hP := (if_pos c30).symm.trans hP
              have hq := hq c30
              refine lv_iconst (v := 1) hx hb dX8_canBeDriven_46 (by decide) ?_
              refine lv_goto (tgt := 51) hx hb dX8_canBeDriven_47 (by decide) ?_
              refine lv_istore_n (lv' := [(3, .int (1 : Int32)), (2, .int v1), (0, .ref (a 0)), (1, .int x1)]) hx hb dX8_canBeDriven_51 rfl hl (by decide) rfl (fun ls hl => ?_)
              refine lv_iload_n hx hb dX8_canBeDriven_52 rfl (lv_at hl 0 rfl) ?_
              refine lv_if_eq (tgt := 88) hx hb dX8_canBeDriven_53 (by decide) (fun c32 => absurd c32 (show ¬ (1 : Int32) = (0 : Int32) by decide)) (fun _ => ?_)
              refine lv_aload_n hx hb dX8_canBeDriven_56 rfl (lv_at hl 2 rfl) ?_
              refine va_get (D := D) (ci := 8) (v := .long (s4_l u 0)) (C := RX8) (T := TX8) (N := 28) hx hb htG in_8 hown hK hw.1 0 (mo_0 a k3 u) rfl 11 (by decide) f_113 (fun _ h9 => h9) rfl dX8_canBeDriven_57 ?_
              refine lv_aload_n hx hb dX8_canBeDriven_60 rfl (lv_at hl 2 rfl) ?_
              refine va_get (D := D) (ci := 8) (v := .ref (a 8)) (C := RX8) (T := TX8) (N := 28) hx hb htG in_8 hown hK hw.1 0 (mo_0 a k3 u) rfl 9 (by decide) f_32 (fun _ h9 => h9) rfl dX8_canBeDriven_61 ?_
              refine lv_iload_n hx hb dX8_canBeDriven_64 rfl (lv_at hl 1 rfl) ?_
              obtain ⟨h33, hq⟩ := hq
              refine y_lald (t0 := 1) hx hb hK hw 0 (mo_8 a k3 u) rfl h33 dX8_canBeDriven_65 ?_
              refine W.lcmp hx hb dX8_canBeDriven_66 ?_
              refine lv_if_gt (tgt := 88) hx hb dX8_canBeDriven_67 (by decide) (fun c34 => ?_) (fun c34 => ?_)
              · have hP := (if_pos c34).symm.trans hP
                refine lv_iconst (v := 0) hx hb dX8_canBeDriven_88 (by decide) ?_
                exact ret_z hx hb hr hlocks hw rfl dX8_canBeDriven_89 (congrArg (fun z => (z, u)) hP)
              · have hP := (if_neg c34).symm.trans hP
                have hq := hq c34
                refine lv_aload_n hx hb dX8_canBeDriven_70 rfl (lv_at hl 2 rfl) ?_
                refine va_get (D := D) (ci := 8) (v := .long (s4_l u 1)) (C := RX8) (T := TX8) (N := 28) hx hb htG in_8 hown hK hw.1 0 (mo_0 a k3 u) rfl 12 (by decide) f_117 (fun _ h9 => h9) rfl dX8_canBeDriven_71 ?_
                refine lv_aload_n hx hb dX8_canBeDriven_74 rfl (lv_at hl 2 rfl) ?_
                refine va_get (D := D) (ci := 8) (v := .ref (a 9)) (C := RX8) (T := TX8) (N := 28) hx hb htG in_8 hown hK hw.1 0 (mo_0 a k3 u) rfl 10 (by decide) f_36 (fun _ h9 => h9) rfl dX8_canBeDriven_75 ?_
                refine lv_iload_n hx hb dX8_canBeDriven_78 rfl (lv_at hl 1 rfl) ?_
                have h35 := hq
                refine y_lald (t0 := 1) hx hb hK hw 1 (mo_9 a k3 u) rfl h35 dX8_canBeDriven_79 ?_
                refine W.lcmp hx hb dX8_canBeDriven_80 ?_
                refine lv_if_gt (tgt := 88) hx hb dX8_canBeDriven_81 (by decide) (fun c36 => ?_) (fun c36 => ?_)
                · have hP := (if_pos c36).symm.trans hP
                  refine lv_iconst (v := 0) hx hb dX8_canBeDriven_88 (by decide) ?_
                  exact ret_z hx hb hr hlocks hw rfl dX8_canBeDriven_89 (congrArg (fun z => (z, u)) hP)
                · have hP := (if_neg c36).symm.trans hP
                  refine lv_iconst (v := 1) hx hb dX8_canBeDriven_84 (by decide) ?_
                  refine lv_goto (tgt := 89) hx hb dX8_canBeDriven_85 (by decide) ?_
                  exact ret_z hx hb hr hlocks hw rfl dX8_canBeDriven_89 (congrArg (fun z => (z, u)) hP)
  exact hgo _ rfl s.heap [] hw
theorem dX8_goesInto_0 : decode cX8_goesInto 0 = .ok (.aload_n 0, 1) := by decide +kernel
theorem dX8_goesInto_1 : decode cX8_goesInto 1 = .ok (.iload_n 2, 1) := by decide +kernel
theorem dX8_goesInto_2 : decode cX8_goesInto 2 = .ok (.invokevirtual 120, 3) := by decide +kernel
theorem dX8_goesInto_5 : decode cX8_goesInto 5 = .ok (.ifCond .eq 16, 3) := by decide +kernel
theorem dX8_goesInto_8 : decode cX8_goesInto 8 = .ok (.aload_n 0, 1) := by decide +kernel
theorem dX8_goesInto_9 : decode cX8_goesInto 9 = .ok (.iload_n 2, 1) := by decide +kernel
theorem dX8_goesInto_10 : decode cX8_goesInto 10 = .ok (.invokevirtual 123, 3) := by decide +kernel
theorem dX8_goesInto_13 : decode cX8_goesInto 13 = .ok (.aload_n 0, 1) := by decide +kernel
theorem dX8_goesInto_14 : decode cX8_goesInto 14 = .ok (.iload_n 1, 1) := by decide +kernel
theorem dX8_goesInto_15 : decode cX8_goesInto 15 = .ok (.invokevirtual 127, 3) := by decide +kernel
theorem dX8_goesInto_18 : decode cX8_goesInto 18 = .ok (.if_icmp .eq 5, 3) := by decide +kernel
theorem dX8_goesInto_21 : decode cX8_goesInto 21 = .ok (.iconst 0, 1) := by decide +kernel
theorem dX8_goesInto_22 : decode cX8_goesInto 22 = .ok (.ireturn, 1) := by decide +kernel
theorem dX8_goesInto_23 : decode cX8_goesInto 23 = .ok (.iload_n 1, 1) := by decide +kernel
theorem dX8_goesInto_24 : decode cX8_goesInto 24 = .ok (.iconst 2, 1) := by decide +kernel
theorem dX8_goesInto_25 : decode cX8_goesInto 25 = .ok (.idiv, 1) := by decide +kernel
theorem dX8_goesInto_26 : decode cX8_goesInto 26 = .ok (.iload_n 2, 1) := by decide +kernel
theorem dX8_goesInto_27 : decode cX8_goesInto 27 = .ok (.iconst 2, 1) := by decide +kernel
theorem dX8_goesInto_28 : decode cX8_goesInto 28 = .ok (.idiv, 1) := by decide +kernel
theorem dX8_goesInto_29 : decode cX8_goesInto 29 = .ok (.if_icmp .ne 27, 3) := by decide +kernel
theorem dX8_goesInto_32 : decode cX8_goesInto 32 = .ok (.iload_n 1, 1) := by decide +kernel
theorem dX8_goesInto_33 : decode cX8_goesInto 33 = .ok (.iload_n 2, 1) := by decide +kernel
theorem dX8_goesInto_34 : decode cX8_goesInto 34 = .ok (.if_icmp .eq 20, 3) := by decide +kernel
theorem dX8_goesInto_37 : decode cX8_goesInto 37 = .ok (.aload_n 0, 1) := by decide +kernel
theorem dX8_goesInto_38 : decode cX8_goesInto 38 = .ok (.getfield 16, 3) := by decide +kernel
theorem dX8_goesInto_41 : decode cX8_goesInto 41 = .ok (.aload_n 0, 1) := by decide +kernel
theorem dX8_goesInto_42 : decode cX8_goesInto 42 = .ok (.iload_n 1, 1) := by decide +kernel
theorem dX8_goesInto_43 : decode cX8_goesInto 43 = .ok (.invokevirtual 127, 3) := by decide +kernel
theorem dX8_goesInto_46 : decode cX8_goesInto 46 = .ok (.baload, 1) := by decide +kernel
theorem dX8_goesInto_47 : decode cX8_goesInto 47 = .ok (.ifCond .eq 7, 3) := by decide +kernel
theorem dX8_goesInto_50 : decode cX8_goesInto 50 = .ok (.iconst 1, 1) := by decide +kernel
theorem dX8_goesInto_51 : decode cX8_goesInto 51 = .ok (.goto 4, 3) := by decide +kernel
theorem dX8_goesInto_54 : decode cX8_goesInto 54 = .ok (.iconst 0, 1) := by decide +kernel
theorem dX8_goesInto_55 : decode cX8_goesInto 55 = .ok (.ireturn, 1) := by decide +kernel
theorem dX8_goesInto_56 : decode cX8_goesInto 56 = .ok (.aload_n 0, 1) := by decide +kernel
theorem dX8_goesInto_57 : decode cX8_goesInto 57 = .ok (.getfield 51, 3) := by decide +kernel
theorem dX8_goesInto_60 : decode cX8_goesInto 60 = .ok (.bipush 12, 2) := by decide +kernel
theorem dX8_goesInto_62 : decode cX8_goesInto 62 = .ok (.iload_n 1, 1) := by decide +kernel
theorem dX8_goesInto_63 : decode cX8_goesInto 63 = .ok (.iconst 2, 1) := by decide +kernel
theorem dX8_goesInto_64 : decode cX8_goesInto 64 = .ok (.idiv, 1) := by decide +kernel
theorem dX8_goesInto_65 : decode cX8_goesInto 65 = .ok (.imul, 1) := by decide +kernel
theorem dX8_goesInto_66 : decode cX8_goesInto 66 = .ok (.iload_n 2, 1) := by decide +kernel
theorem dX8_goesInto_67 : decode cX8_goesInto 67 = .ok (.iconst 2, 1) := by decide +kernel
theorem dX8_goesInto_68 : decode cX8_goesInto 68 = .ok (.idiv, 1) := by decide +kernel
theorem dX8_goesInto_69 : decode cX8_goesInto 69 = .ok (.iadd, 1) := by decide +kernel
theorem dX8_goesInto_70 : decode cX8_goesInto 70 = .ok (.baload, 1) := by decide +kernel
theorem dX8_goesInto_71 : decode cX8_goesInto 71 = .ok (.ifCond .ne 7, 3) := by decide +kernel
theorem dX8_goesInto_74 : decode cX8_goesInto 74 = .ok (.iconst 1, 1) := by decide +kernel
theorem dX8_goesInto_75 : decode cX8_goesInto 75 = .ok (.goto 4, 3) := by decide +kernel
theorem dX8_goesInto_78 : decode cX8_goesInto 78 = .ok (.iconst 0, 1) := by decide +kernel
theorem dX8_goesInto_79 : decode cX8_goesInto 79 = .ok (.ireturn, 1) := by decide +kernel
abbrev rm_mM_goesInto : Room := { frames := 1, cells := 0, slots := 0, locals := 23 }
def mp_M_goesInto (u : S4) (x1 : Int32) (x2 : Int32) : Int32 :=
  let r2 : Int32 := mp_M_canBeDriven u x2
  if r2 = (0 : Int32) then
    (0 : Int32)
  else
    let r5 : Int32 := mp_M_beginOf u x2
    let r7 : Int32 := mp_M_endOf u x1
    if r5 = r7 then
      if (x1 / (2 : Int32)) = (x2 / (2 : Int32)) then
        if x1 = x2 then
          (0 : Int32)
        else
          let r15 : Int32 := mp_M_endOf u x1
          if (s4_ra u 2 r15) = (0 : Int32) then
            (0 : Int32)
          else
            (1 : Int32)
      else
        let v10 : Int32 := (((12 : Int32) * (x1 / (2 : Int32))) + (x2 / (2 : Int32)))
        if (s4_ra u 11 v10) = (0 : Int32) then
          (1 : Int32)
        else
          (0 : Int32)
    else
      (0 : Int32)
def mq_M_goesInto (u : S4) (x1 : Int32) (x2 : Int32) : Prop :=
  mq_M_canBeDriven u x2 ∧
  let r2 : Int32 := mp_M_canBeDriven u x2
  (¬ r2 = (0 : Int32) →
    mq_M_beginOf u x2 ∧
    let r5 : Int32 := mp_M_beginOf u x2
    mq_M_endOf u x1 ∧
    let r7 : Int32 := mp_M_endOf u x1
    (r5 = r7 →
      (((x1 / (2 : Int32)) = (x2 / (2 : Int32)) →
        (¬ x1 = x2 →
          mq_M_endOf u x1 ∧
          let r15 : Int32 := mp_M_endOf u x1
          vp_in r15 8)) ∧ (¬ (x1 / (2 : Int32)) = (x2 / (2 : Int32)) →
        let v10 : Int32 := (((12 : Int32) * (x1 / (2 : Int32))) + (x2 / (2 : Int32)))
        vp_in v10 144))))
set_option maxHeartbeats 4000000 in
set_option maxRecDepth 100000 in
theorem mc_M_goesInto (l : Launch) (D : va_G) (a : Nat → Nat) (k3 : K3) (u : S4) (x1 : Int32) (x2 : Int32) (hq : mq_M_goesInto u x1 x2) : MI l D vwCl (ty3 k3) nestW (mC a k3) yX8_goesInto (kX8_goesInto :: tbG) rm_mM_goesInto [.ref (a 0), .int x1, .int x2] u (mp_M_goesInto u x1 x2, u) := by
  refine mkI (cc := cX8_goesInto) (maxL := 3) (ret := (some .boolean)) (by decide) rfl (Nat.le_of_ble_eq_true rfl) ?_
  intro p e s m below meth c A ls F hw hl
  generalize hav : ([.ref (a 0), .int x1, .int x2] : List Value).toArray = av at F ⊢
  have hl : lv_has ls 3 [(0, .ref (a 0)), (1, .int x1), (2, .int x2)] := hl
  obtain ⟨hx, hb, hr, hml, hown, hts, hK, hN, hlocks, hA⟩ := id F
  have hown : s.vm.findClass RX8 = some m.cls := hown
  have htG : ∀ w ∈ tbG, w.before av s = true := fun w h => hts w (List.mem_cons_of_mem _ h)
  have f_51 := htG _ tb_531
  have f_16 := htG _ tb_517
  have hgo : ∀ P, mp_M_goesInto u x1 x2 = P → ∀ (H : Heap) (locs : List Loc), wd D vwCl (mC a k3) A s.heap u H locs → W p l e rm_mM_goesInto s m av below meth c H locs 0 0 (QI below D vwCl (mC a k3) A av s (P, u)) (F0 m 0 ls []) := by
    intro P hP H locs hw
    refine lv_aload_n hx hb dX8_goesInto_0 rfl (lv_at hl 0 rfl) ?_
    refine lv_iload_n hx hb dX8_goesInto_1 rfl (lv_at hl 2 rfl) ?_
    obtain ⟨h1, hq⟩ := hq
    let r2 : Int32 := mp_M_canBeDriven u x2
    refine call_vir (rest := []) ⟨hx, hb, hml, hown, htG⟩ nestW_ok hK hN hA (mc_M_canBeDriven l D a k3 u x2 h1) (cwV 1 htG (tb_V tb_663 tb_665 tb_14 tb_28 tb_666) rfl rfl rfl (by decide +kernel) ⟨Nat.le_of_ble_eq_true rfl, Nat.le_of_ble_eq_true rfl⟩) (ci := 8) rfl (mo_0 a k3 u) rfl hw rfl hl.1 rfl (Nat.le_of_ble_eq_true rfl) dX8_goesInto_2 ⟨Nat.zero_le _, Nat.zero_le _⟩ (fun H locs (hw : wd D vwCl (mC a k3) A s.heap u H locs) => ?_)
    refine lv_if_eq (tgt := 21) hx hb dX8_goesInto_5 (by decide) (fun c3 => ?_) (fun c3 => ?_)
    · have hP := (if_pos c3).symm.trans hP
      refine lv_iconst (v := 0) hx hb dX8_goesInto_21 (by decide) ?_
      exact ret_z hx hb hr hlocks hw rfl dX8_goesInto_22 (congrArg (fun z => (z, u)) hP)
    · have hP := (if_neg c3).symm.trans hP
      have hq := hq c3
      refine lv_aload_n hx hb dX8_goesInto_8 rfl (lv_at hl 0 rfl) ?_
      refine lv_iload_n hx hb dX8_goesInto_9 rfl (lv_at hl 2 rfl) ?_
      obtain ⟨h4, hq⟩ := hq
      let r5 : Int32 := mp_M_beginOf u x2
      refine call_vir (rest := []) ⟨hx, hb, hml, hown, htG⟩ nestW_ok hK hN hA (mc_M_beginOf l D a k3 u x2 h4) (cwV 1 htG (tb_V tb_667 tb_669 tb_15 tb_28 tb_670) rfl rfl rfl (by decide +kernel) ⟨Nat.le_of_ble_eq_true rfl, Nat.le_of_ble_eq_true rfl⟩) (ci := 8) rfl (mo_0 a k3 u) rfl hw rfl hl.1 rfl (Nat.le_of_ble_eq_true rfl) dX8_goesInto_10 ⟨Nat.zero_le _, Nat.zero_le _⟩ (fun H locs (hw : wd D vwCl (mC a k3) A s.heap u H locs) => ?_)
      refine lv_aload_n hx hb dX8_goesInto_13 rfl (lv_at hl 0 rfl) ?_
      refine lv_iload_n hx hb dX8_goesInto_14 rfl (lv_at hl 1 rfl) ?_
      obtain ⟨h6, hq⟩ := hq
      let r7 : Int32 := mp_M_endOf u x1
      refine call_vir (rest := [.int r5]) ⟨hx, hb, hml, hown, htG⟩ nestW_ok hK hN hA (mc_M_endOf l D a k3 u x1 h6) (cwV 1 htG (tb_V tb_671 tb_673 tb_16 tb_28 tb_674) rfl rfl rfl (by decide +kernel) ⟨Nat.le_of_ble_eq_true rfl, Nat.le_of_ble_eq_true rfl⟩) (ci := 8) rfl (mo_0 a k3 u) rfl hw rfl hl.1 rfl (Nat.le_of_ble_eq_true rfl) dX8_goesInto_15 ⟨Nat.zero_le _, Nat.zero_le _⟩ (fun H locs (hw : wd D vwCl (mC a k3) A s.heap u H locs) => ?_)
      refine lv_icmp_eq (tgt := 23) hx hb dX8_goesInto_18 (by decide) (fun c8 => ?_) (fun c8 => ?_)
      · have hP := (if_pos c8).symm.trans hP
        have hq := hq c8
        refine lv_iload_n hx hb dX8_goesInto_23 rfl (lv_at hl 1 rfl) ?_
        refine lv_iconst (v := 2) hx hb dX8_goesInto_24 (by decide) ?_
        refine lv_idiv hx hb dX8_goesInto_25 (by decide) ?_
        refine lv_iload_n hx hb dX8_goesInto_26 rfl (lv_at hl 2 rfl) ?_
        refine lv_iconst (v := 2) hx hb dX8_goesInto_27 (by decide) ?_
        refine lv_idiv hx hb dX8_goesInto_28 (by decide) ?_
        refine lv_icmp_ne (tgt := 56) hx hb dX8_goesInto_29 (by decide) (fun c9 => ?_) (fun c9 => ?_)
        · have hP := (if_neg c9).symm.trans hP
          have hq := hq.2 c9
          refine lv_aload_n hx hb dX8_goesInto_56 rfl (lv_at hl 0 rfl) ?_
          refine va_get (D := D) (ci := 8) (v := .ref (a 14)) (C := RX8) (T := TX8) (N := 28) hx hb htG in_8 hown hK hw.1 0 (mo_0 a k3 u) rfl 17 (by decide) f_51 (fun _ h9 => h9) rfl dX8_goesInto_57 ?_
          refine lv_bipush (v := 12) hx hb dX8_goesInto_60 (by decide) ?_
          refine lv_iload_n hx hb dX8_goesInto_62 rfl (lv_at hl 1 rfl) ?_
          refine lv_iconst (v := 2) hx hb dX8_goesInto_63 (by decide) ?_
          refine lv_idiv hx hb dX8_goesInto_64 (by decide) ?_
          refine lv_imul hx hb dX8_goesInto_65 ?_
          refine lv_iload_n hx hb dX8_goesInto_66 rfl (lv_at hl 2 rfl) ?_
          refine lv_iconst (v := 2) hx hb dX8_goesInto_67 (by decide) ?_
          refine lv_idiv hx hb dX8_goesInto_68 (by decide) ?_
          refine lv_iadd hx hb dX8_goesInto_69 ?_
          let v10 : Int32 := (((12 : Int32) * (x1 / (2 : Int32))) + (x2 / (2 : Int32)))
          have h11 := hq
          refine y_zald (t0 := 2) hx hb hK hw 11 (mo_14 a k3 u) rfl h11 dX8_goesInto_70 ?_
          refine lv_if_ne (tgt := 78) hx hb dX8_goesInto_71 (by decide) (fun c12 => ?_) (fun c12 => ?_)
          · have hP := (if_neg c12).symm.trans hP
            refine lv_iconst (v := 0) hx hb dX8_goesInto_78 (by decide) ?_
            exact ret_z hx hb hr hlocks hw rfl dX8_goesInto_79 (congrArg (fun z => (z, u)) hP)
          · have hP := (if_pos c12).symm.trans hP
            refine lv_iconst (v := 1) hx hb dX8_goesInto_74 (by decide) ?_
            refine lv_goto (tgt := 79) hx hb dX8_goesInto_75 (by decide) ?_
            exact ret_z hx hb hr hlocks hw rfl dX8_goesInto_79 (congrArg (fun z => (z, u)) hP)
        · have hP := (if_pos c9).symm.trans hP
          have hq := hq.1 c9
          refine lv_iload_n hx hb dX8_goesInto_32 rfl (lv_at hl 1 rfl) ?_
          refine lv_iload_n hx hb dX8_goesInto_33 rfl (lv_at hl 2 rfl) ?_
          refine lv_icmp_eq (tgt := 54) hx hb dX8_goesInto_34 (by decide) (fun c13 => ?_) (fun c13 => ?_)
          · have hP := (if_pos c13).symm.trans hP
            refine lv_iconst (v := 0) hx hb dX8_goesInto_54 (by decide) ?_
            exact ret_z hx hb hr hlocks hw rfl dX8_goesInto_55 (congrArg (fun z => (z, u)) hP)
          · have hP := (if_neg c13).symm.trans hP
            have hq := hq c13
            refine lv_aload_n hx hb dX8_goesInto_37 rfl (lv_at hl 0 rfl) ?_
            refine va_get (D := D) (ci := 8) (v := .ref (a 3)) (C := RX8) (T := TX8) (N := 28) hx hb htG in_8 hown hK hw.1 0 (mo_0 a k3 u) rfl 3 (by decide) f_16 (fun _ h9 => h9) rfl dX8_goesInto_38 ?_
            refine lv_aload_n hx hb dX8_goesInto_41 rfl (lv_at hl 0 rfl) ?_
            refine lv_iload_n hx hb dX8_goesInto_42 rfl (lv_at hl 1 rfl) ?_
            obtain ⟨h14, hq⟩ := hq
            let r15 : Int32 := mp_M_endOf u x1
            refine call_vir (rest := [.ref (a 3)]) ⟨hx, hb, hml, hown, htG⟩ nestW_ok hK hN hA (mc_M_endOf l D a k3 u x1 h14) (cwV 1 htG (tb_V tb_671 tb_673 tb_16 tb_28 tb_674) rfl rfl rfl (by decide +kernel) ⟨Nat.le_of_ble_eq_true rfl, Nat.le_of_ble_eq_true rfl⟩) (ci := 8) rfl (mo_0 a k3 u) rfl hw rfl hl.1 rfl (Nat.le_of_ble_eq_true rfl) dX8_goesInto_43 ⟨Nat.zero_le _, Nat.zero_le _⟩ (fun H locs (hw : wd D vwCl (mC a k3) A s.heap u H locs) => ?_)
            have h16 := hq
            refine y_zald (t0 := 2) hx hb hK hw 2 (mo_3 a k3 u) rfl h16 dX8_goesInto_46 ?_
            refine lv_if_eq (tgt := 54) hx hb dX8_goesInto_47 (by decide) (fun c17 => ?_) (fun c17 => ?_)
            · have hP := (if_pos c17).symm.trans hP
              refine lv_iconst (v := 0) hx hb dX8_goesInto_54 (by decide) ?_
              exact ret_z hx hb hr hlocks hw rfl dX8_goesInto_55 (congrArg (fun z => (z, u)) hP)
            · have hP := (if_neg c17).symm.trans hP
              refine lv_iconst (v := 1) hx hb dX8_goesInto_50 (by decide) ?_
              refine lv_goto (tgt := 55) hx hb dX8_goesInto_51 (by decide) ?_
              exact ret_z hx hb hr hlocks hw rfl dX8_goesInto_55 (congrArg (fun z => (z, u)) hP)
      · have hP := (if_neg c8).symm.trans hP
        refine lv_iconst (v := 0) hx hb dX8_goesInto_21 (by decide) ?_
        exact ret_z hx hb hr hlocks hw rfl dX8_goesInto_22 (congrArg (fun z => (z, u)) hP)
  exact hgo _ rfl s.heap [] hw
theorem dX8_begun_0 : decode cX8_begun 0 = .ok (.iload_n 3, 1) := by decide +kernel
theorem dX8_begun_1 : decode cX8_begun 1 = .ok (.iconst 2, 1) := by decide +kernel
theorem dX8_begun_2 : decode cX8_begun 2 = .ok (.idiv, 1) := by decide +kernel
theorem dX8_begun_3 : decode cX8_begun 3 = .ok (.istore 4, 2) := by decide +kernel
theorem dX8_begun_5 : decode cX8_begun 5 = .ok (.iload_n 2, 1) := by decide +kernel
theorem dX8_begun_6 : decode cX8_begun 6 = .ok (.iload_n 1, 1) := by decide +kernel
theorem dX8_begun_7 : decode cX8_begun 7 = .ok (.iconst 2, 1) := by decide +kernel
theorem dX8_begun_8 : decode cX8_begun 8 = .ok (.idiv, 1) := by decide +kernel
theorem dX8_begun_9 : decode cX8_begun 9 = .ok (.iload 4, 2) := by decide +kernel
theorem dX8_begun_11 : decode cX8_begun 11 = .ok (.if_icmp .ne 7, 3) := by decide +kernel
theorem dX8_begun_14 : decode cX8_begun 14 = .ok (.iconst 0, 1) := by decide +kernel
theorem dX8_begun_15 : decode cX8_begun 15 = .ok (.goto 17, 3) := by decide +kernel
theorem dX8_begun_18 : decode cX8_begun 18 = .ok (.aload_n 0, 1) := by decide +kernel
theorem dX8_begun_19 : decode cX8_begun 19 = .ok (.getfield 48, 3) := by decide +kernel
theorem dX8_begun_22 : decode cX8_begun 22 = .ok (.bipush 12, 2) := by decide +kernel
theorem dX8_begun_24 : decode cX8_begun 24 = .ok (.iload_n 1, 1) := by decide +kernel
theorem dX8_begun_25 : decode cX8_begun 25 = .ok (.iconst 2, 1) := by decide +kernel
theorem dX8_begun_26 : decode cX8_begun 26 = .ok (.idiv, 1) := by decide +kernel
theorem dX8_begun_27 : decode cX8_begun 27 = .ok (.imul, 1) := by decide +kernel
theorem dX8_begun_28 : decode cX8_begun 28 = .ok (.iload 4, 2) := by decide +kernel
theorem dX8_begun_30 : decode cX8_begun 30 = .ok (.iadd, 1) := by decide +kernel
theorem dX8_begun_31 : decode cX8_begun 31 = .ok (.iaload, 1) := by decide +kernel
theorem dX8_begun_32 : decode cX8_begun 32 = .ok (.iadd, 1) := by decide +kernel
theorem dX8_begun_33 : decode cX8_begun 33 = .ok (.istore 5, 2) := by decide +kernel
theorem dX8_begun_35 : decode cX8_begun 35 = .ok (.iload 5, 2) := by decide +kernel
theorem dX8_begun_37 : decode cX8_begun 37 = .ok (.ldc 112, 2) := by decide +kernel
theorem dX8_begun_39 : decode cX8_begun 39 = .ok (.idiv, 1) := by decide +kernel
theorem dX8_begun_40 : decode cX8_begun 40 = .ok (.istore 6, 2) := by decide +kernel
theorem dX8_begun_42 : decode cX8_begun 42 = .ok (.iload 5, 2) := by decide +kernel
theorem dX8_begun_44 : decode cX8_begun 44 = .ok (.ldc 112, 2) := by decide +kernel
theorem dX8_begun_46 : decode cX8_begun 46 = .ok (.irem, 1) := by decide +kernel
theorem dX8_begun_47 : decode cX8_begun 47 = .ok (.istore 7, 2) := by decide +kernel
theorem dX8_begun_49 : decode cX8_begun 49 = .ok (.iload 6, 2) := by decide +kernel
theorem dX8_begun_51 : decode cX8_begun 51 = .ok (.sipush 366, 3) := by decide +kernel
theorem dX8_begun_54 : decode cX8_begun 54 = .ok (.if_icmp .ge 32, 3) := by decide +kernel
theorem dX8_begun_57 : decode cX8_begun 57 = .ok (.aload_n 0, 1) := by decide +kernel
theorem dX8_begun_58 : decode cX8_begun 58 = .ok (.getfield 45, 3) := by decide +kernel
theorem dX8_begun_61 : decode cX8_begun 61 = .ok (.sipush 366, 3) := by decide +kernel
theorem dX8_begun_64 : decode cX8_begun 64 = .ok (.iload 4, 2) := by decide +kernel
theorem dX8_begun_66 : decode cX8_begun 66 = .ok (.imul, 1) := by decide +kernel
theorem dX8_begun_67 : decode cX8_begun 67 = .ok (.iload 6, 2) := by decide +kernel
theorem dX8_begun_69 : decode cX8_begun 69 = .ok (.iadd, 1) := by decide +kernel
theorem dX8_begun_70 : decode cX8_begun 70 = .ok (.baload, 1) := by decide +kernel
theorem dX8_begun_71 : decode cX8_begun 71 = .ok (.ifCond .ne 15, 3) := by decide +kernel
theorem dX8_begun_74 : decode cX8_begun 74 = .ok (.iload 7, 2) := by decide +kernel
theorem dX8_begun_76 : decode cX8_begun 76 = .ok (.aload_n 0, 1) := by decide +kernel
theorem dX8_begun_77 : decode cX8_begun 77 = .ok (.getfield 42, 3) := by decide +kernel
theorem dX8_begun_80 : decode cX8_begun 80 = .ok (.iload 4, 2) := by decide +kernel
theorem dX8_begun_82 : decode cX8_begun 82 = .ok (.iaload, 1) := by decide +kernel
theorem dX8_begun_83 : decode cX8_begun 83 = .ok (.if_icmp .le 5, 3) := by decide +kernel
theorem dX8_begun_86 : decode cX8_begun 86 = .ok (.iconst (-1), 1) := by decide +kernel
theorem dX8_begun_87 : decode cX8_begun 87 = .ok (.ireturn, 1) := by decide +kernel
theorem dX8_begun_88 : decode cX8_begun 88 = .ok (.iload 7, 2) := by decide +kernel
theorem dX8_begun_90 : decode cX8_begun 90 = .ok (.aload_n 0, 1) := by decide +kernel
theorem dX8_begun_91 : decode cX8_begun 91 = .ok (.getfield 39, 3) := by decide +kernel
theorem dX8_begun_94 : decode cX8_begun 94 = .ok (.iload 4, 2) := by decide +kernel
theorem dX8_begun_96 : decode cX8_begun 96 = .ok (.iaload, 1) := by decide +kernel
theorem dX8_begun_97 : decode cX8_begun 97 = .ok (.if_icmp .ge 19, 3) := by decide +kernel
theorem dX8_begun_100 : decode cX8_begun 100 = .ok (.iload 6, 2) := by decide +kernel
theorem dX8_begun_102 : decode cX8_begun 102 = .ok (.ldc 112, 2) := by decide +kernel
theorem dX8_begun_104 : decode cX8_begun 104 = .ok (.imul, 1) := by decide +kernel
theorem dX8_begun_105 : decode cX8_begun 105 = .ok (.aload_n 0, 1) := by decide +kernel
theorem dX8_begun_106 : decode cX8_begun 106 = .ok (.getfield 39, 3) := by decide +kernel
theorem dX8_begun_109 : decode cX8_begun 109 = .ok (.iload 4, 2) := by decide +kernel
theorem dX8_begun_111 : decode cX8_begun 111 = .ok (.iaload, 1) := by decide +kernel
theorem dX8_begun_112 : decode cX8_begun 112 = .ok (.iadd, 1) := by decide +kernel
theorem dX8_begun_113 : decode cX8_begun 113 = .ok (.goto 5, 3) := by decide +kernel
theorem dX8_begun_116 : decode cX8_begun 116 = .ok (.iload 5, 2) := by decide +kernel
theorem dX8_begun_118 : decode cX8_begun 118 = .ok (.ireturn, 1) := by decide +kernel
abbrev rm_mM_begun3 : Room := { frames := 0, cells := 0, slots := 0, locals := 0 }
def mp_M_begun3 (u : S4) (x1 : Int32) (x2 : Int32) (x3 : Int32) : Int32 :=
  let v1 : Int32 := (x3 / (2 : Int32))
  if (x1 / (2 : Int32)) = v1 then
    let v16 : Int32 := (x2 + (0 : Int32))
    let v17 : Int32 := (v16 / (86400 : Int32))
    let v18 : Int32 := (v16 - v16 / (86400 : Int32) * (86400 : Int32))
    if (366 : Int32) ≤ v17 then
      (-1 : Int32)
    else
      if (s4_ra u 9 (((366 : Int32) * v1) + v17)) = (0 : Int32) then
        if v18 ≤ (s4_ra u 8 v1) then
          if (s4_ra u 7 v1) ≤ v18 then
            v16
          else
            ((v17 * (86400 : Int32)) + (s4_ra u 7 v1))
        else
          (-1 : Int32)
      else
        (-1 : Int32)
  else
    let v3 : Int32 := (((12 : Int32) * (x1 / (2 : Int32))) + v1)
    let v5 : Int32 := (x2 + (s4_ra u 10 v3))
    let v6 : Int32 := (v5 / (86400 : Int32))
    let v7 : Int32 := (v5 - v5 / (86400 : Int32) * (86400 : Int32))
    if (366 : Int32) ≤ v6 then
      (-1 : Int32)
    else
      if (s4_ra u 9 (((366 : Int32) * v1) + v6)) = (0 : Int32) then
        if v7 ≤ (s4_ra u 8 v1) then
          if (s4_ra u 7 v1) ≤ v7 then
            v5
          else
            ((v6 * (86400 : Int32)) + (s4_ra u 7 v1))
        else
          (-1 : Int32)
      else
        (-1 : Int32)
def mq_M_begun3 (u : S4) (x1 : Int32) (x2 : Int32) (x3 : Int32) : Prop :=
  let v1 : Int32 := (x3 / (2 : Int32))
  (((x1 / (2 : Int32)) = v1 →
    let v16 : Int32 := (x2 + (0 : Int32))
    let v17 : Int32 := (v16 / (86400 : Int32))
    let v18 : Int32 := (v16 - v16 / (86400 : Int32) * (86400 : Int32))
    (¬ (366 : Int32) ≤ v17 →
      vp_in (((366 : Int32) * v1) + v17) 4392 ∧
      ((s4_ra u 9 (((366 : Int32) * v1) + v17)) = (0 : Int32) →
        vp_in v1 12 ∧
        (v18 ≤ (s4_ra u 8 v1) →
          vp_in v1 12 ∧
          (¬ (s4_ra u 7 v1) ≤ v18 →
            vp_in v1 12))))) ∧ (¬ (x1 / (2 : Int32)) = v1 →
    let v3 : Int32 := (((12 : Int32) * (x1 / (2 : Int32))) + v1)
    vp_in v3 144 ∧
    let v5 : Int32 := (x2 + (s4_ra u 10 v3))
    let v6 : Int32 := (v5 / (86400 : Int32))
    let v7 : Int32 := (v5 - v5 / (86400 : Int32) * (86400 : Int32))
    (¬ (366 : Int32) ≤ v6 →
      vp_in (((366 : Int32) * v1) + v6) 4392 ∧
      ((s4_ra u 9 (((366 : Int32) * v1) + v6)) = (0 : Int32) →
        vp_in v1 12 ∧
        (v7 ≤ (s4_ra u 8 v1) →
          vp_in v1 12 ∧
          (¬ (s4_ra u 7 v1) ≤ v7 →
            vp_in v1 12))))))
set_option maxHeartbeats 4000000 in
set_option maxRecDepth 100000 in
theorem mc_M_begun3 (l : Launch) (D : va_G) (a : Nat → Nat) (k3 : K3) (u : S4) (x1 : Int32) (x2 : Int32) (x3 : Int32) (hq : mq_M_begun3 u x1 x2 x3) : MI l D vwCl (ty3 k3) nestW (mC a k3) yX8_begun (kX8_begun :: tbG) rm_mM_begun3 [.ref (a 0), .int x1, .int x2, .int x3] u (mp_M_begun3 u x1 x2 x3, u) := by
  refine mkI (cc := cX8_begun) (maxL := 8) (ret := (some .int)) (by decide) rfl (Nat.le_of_ble_eq_true rfl) ?_
  intro p e s m below meth c A ls F hw hl
  generalize hav : ([.ref (a 0), .int x1, .int x2, .int x3] : List Value).toArray = av at F ⊢
  have hl : lv_has ls 8 [(0, .ref (a 0)), (1, .int x1), (2, .int x2), (3, .int x3)] := hl
  obtain ⟨hx, hb, hr, hml, hown, hts, hK, hN, hlocks, hA⟩ := id F
  have hown : s.vm.findClass RX8 = some m.cls := hown
  have htG : ∀ w ∈ tbG, w.before av s = true := fun w h => hts w (List.mem_cons_of_mem _ h)
  have f_48 := htG _ tb_530
  have k_112 := htG _ tb_633
  have f_45 := htG _ tb_529
  have f_42 := htG _ tb_528
  have f_39 := htG _ tb_527
  have hgo : ∀ P, mp_M_begun3 u x1 x2 x3 = P → ∀ (H : Heap) (locs : List Loc), wd D vwCl (mC a k3) A s.heap u H locs → W p l e rm_mM_begun3 s m av below meth c H locs 0 0 (QI below D vwCl (mC a k3) A av s (P, u)) (F0 m 0 ls []) := by
    intro P hP H locs hw
    refine lv_iload_n hx hb dX8_begun_0 rfl (lv_at hl 3 rfl) ?_
    refine lv_iconst (v := 2) hx hb dX8_begun_1 (by decide) ?_
    refine lv_idiv hx hb dX8_begun_2 (by decide) ?_
    let v1 : Int32 := (x3 / (2 : Int32))
    refine lv_istore (lv' := [(4, .int v1), (0, .ref (a 0)), (1, .int x1), (2, .int x2), (3, .int x3)]) hx hb dX8_begun_3 hl (by decide) rfl (fun ls hl => ?_)
    refine lv_iload_n hx hb dX8_begun_5 rfl (lv_at hl 3 rfl) ?_
    refine lv_iload_n hx hb dX8_begun_6 rfl (lv_at hl 2 rfl) ?_
    refine lv_iconst (v := 2) hx hb dX8_begun_7 (by decide) ?_
    refine lv_idiv hx hb dX8_begun_8 (by decide) ?_
    refine lv_iload hx hb dX8_begun_9 (lv_at hl 0 rfl) ?_
    refine lv_icmp_ne (tgt := 18) hx hb dX8_begun_11 (by decide) (fun c2 => ?_) (fun c2 => ?_)
    · have hP := (if_neg c2).symm.trans hP
      have hq := hq.2 c2
      refine lv_aload_n hx hb dX8_begun_18 rfl (lv_at hl 1 rfl) ?_
      refine va_get (D := D) (ci := 8) (v := .ref (a 13)) (C := RX8) (T := TX8) (N := 28) hx hb htG in_8 hown hK hw.1 0 (mo_0 a k3 u) rfl 16 (by decide) f_48 (fun _ h9 => h9) rfl dX8_begun_19 ?_
      refine lv_bipush (v := 12) hx hb dX8_begun_22 (by decide) ?_
      refine lv_iload_n hx hb dX8_begun_24 rfl (lv_at hl 2 rfl) ?_
      refine lv_iconst (v := 2) hx hb dX8_begun_25 (by decide) ?_
      refine lv_idiv hx hb dX8_begun_26 (by decide) ?_
      refine lv_imul hx hb dX8_begun_27 ?_
      refine lv_iload hx hb dX8_begun_28 (lv_at hl 0 rfl) ?_
      refine lv_iadd hx hb dX8_begun_30 ?_
      let v3 : Int32 := (((12 : Int32) * (x1 / (2 : Int32))) + v1)
      obtain ⟨h4, hq⟩ := hq
      refine y_iald (t0 := 0) hx hb hK hw 10 (mo_13 a k3 u) rfl h4 dX8_begun_31 ?_
      refine lv_iadd hx hb dX8_begun_32 ?_
      let v5 : Int32 := (x2 + (s4_ra u 10 v3))
      refine lv_istore (lv' := [(5, .int v5), (4, .int v1), (0, .ref (a 0)), (1, .int x1), (2, .int x2), (3, .int x3)]) hx hb dX8_begun_33 hl (by decide) rfl (fun ls hl => ?_)
      refine lv_iload hx hb dX8_begun_35 (lv_at hl 0 rfl) ?_
      refine lv_ldc (v := 86400) hx hb hown k_112 dX8_begun_37 ?_
      refine lv_idiv hx hb dX8_begun_39 (by decide) ?_
      let v6 : Int32 := (v5 / (86400 : Int32))
      refine lv_istore (lv' := [(6, .int v6), (5, .int v5), (4, .int v1), (0, .ref (a 0)), (1, .int x1), (2, .int x2), (3, .int x3)]) hx hb dX8_begun_40 hl (by decide) rfl (fun ls hl => ?_)
      refine lv_iload hx hb dX8_begun_42 (lv_at hl 1 rfl) ?_
      refine lv_ldc (v := 86400) hx hb hown k_112 dX8_begun_44 ?_
      refine lv_irem hx hb dX8_begun_46 (by decide) ?_
      let v7 : Int32 := (v5 - v5 / (86400 : Int32) * (86400 : Int32))
      refine lv_istore (lv' := [(7, .int v7), (6, .int v6), (5, .int v5), (4, .int v1), (0, .ref (a 0)), (1, .int x1), (2, .int x2), (3, .int x3)]) hx hb dX8_begun_47 hl (by decide) rfl (fun ls hl => ?_)
      refine lv_iload hx hb dX8_begun_49 (lv_at hl 1 rfl) ?_
      refine lv_sipush (v := 366) hx hb dX8_begun_51 (by decide) ?_
      refine lv_icmp_ge (tgt := 86) hx hb dX8_begun_54 (by decide) (fun c8 => ?_) (fun c8 => ?_)
      · have hP := (if_pos c8).symm.trans hP
        refine lv_iconst (v := -1) hx hb dX8_begun_86 (by decide) ?_
        exact ret_i hx hb hr hlocks hw dX8_begun_87 (congrArg (fun z => (z, u)) hP)
      · have hP := (if_neg c8).symm.trans hP
        have hq := hq c8
        refine lv_aload_n hx hb dX8_begun_57 rfl (lv_at hl 4 rfl) ?_
        refine va_get (D := D) (ci := 8) (v := .ref (a 12)) (C := RX8) (T := TX8) (N := 28) hx hb htG in_8 hown hK hw.1 0 (mo_0 a k3 u) rfl 15 (by decide) f_45 (fun _ h9 => h9) rfl dX8_begun_58 ?_
        refine lv_sipush (v := 366) hx hb dX8_begun_61 (by decide) ?_
        refine lv_iload hx hb dX8_begun_64 (lv_at hl 3 rfl) ?_
        refine lv_imul hx hb dX8_begun_66 ?_
        refine lv_iload hx hb dX8_begun_67 (lv_at hl 1 rfl) ?_
        refine lv_iadd hx hb dX8_begun_69 ?_
        obtain ⟨h9, hq⟩ := hq
        refine y_zald (t0 := 2) hx hb hK hw 9 (mo_12 a k3 u) rfl h9 dX8_begun_70 ?_
        refine lv_if_ne (tgt := 86) hx hb dX8_begun_71 (by decide) (fun c10 => ?_) (fun c10 => ?_)
        · have hP := (if_neg c10).symm.trans hP
          refine lv_iconst (v := -1) hx hb dX8_begun_86 (by decide) ?_
          exact ret_i hx hb hr hlocks hw dX8_begun_87 (congrArg (fun z => (z, u)) hP)
        · have hP := (if_pos c10).symm.trans hP
          have hq := hq c10
          refine lv_iload hx hb dX8_begun_74 (lv_at hl 0 rfl) ?_
          refine lv_aload_n hx hb dX8_begun_76 rfl (lv_at hl 4 rfl) ?_
          refine va_get (D := D) (ci := 8) (v := .ref (a 11)) (C := RX8) (T := TX8) (N := 28) hx hb htG in_8 hown hK hw.1 0 (mo_0 a k3 u) rfl 14 (by decide) f_42 (fun _ h9 => h9) rfl dX8_begun_77 ?_
          refine lv_iload hx hb dX8_begun_80 (lv_at hl 3 rfl) ?_
          obtain ⟨h11, hq⟩ := hq
          refine y_iald (t0 := 0) hx hb hK hw 8 (mo_11 a k3 u) rfl h11 dX8_begun_82 ?_
          refine lv_icmp_le (tgt := 88) hx hb dX8_begun_83 (by decide) (fun c12 => ?_) (fun c12 => ?_)
          · have hP := (if_pos c12).symm.trans hP
            have hq := hq c12
            refine lv_iload hx hb dX8_begun_88 (lv_at hl 0 rfl) ?_
            refine lv_aload_n hx hb dX8_begun_90 rfl (lv_at hl 4 rfl) ?_
            refine va_get (D := D) (ci := 8) (v := .ref (a 10)) (C := RX8) (T := TX8) (N := 28) hx hb htG in_8 hown hK hw.1 0 (mo_0 a k3 u) rfl 13 (by decide) f_39 (fun _ h9 => h9) rfl dX8_begun_91 ?_
            refine lv_iload hx hb dX8_begun_94 (lv_at hl 3 rfl) ?_
            obtain ⟨h13, hq⟩ := hq
            refine y_iald (t0 := 0) hx hb hK hw 7 (mo_10 a k3 u) rfl h13 dX8_begun_96 ?_
            refine lv_icmp_ge (tgt := 116) hx hb dX8_begun_97 (by decide) (fun c14 => ?_) (fun c14 => ?_)
            · have hP := (if_pos c14).symm.trans hP
              refine lv_iload hx hb dX8_begun_116 (lv_at hl 2 rfl) ?_
              exact ret_i hx hb hr hlocks hw dX8_begun_118 (congrArg (fun z => (z, u)) hP)
            · have hP := (if_neg c14).symm.trans hP
              have hq := hq c14
              refine lv_iload hx hb dX8_begun_100 (lv_at hl 1 rfl) ?_
              refine lv_ldc (v := 86400) hx hb hown k_112 dX8_begun_102 ?_
              refine lv_imul hx hb dX8_begun_104 ?_
              refine lv_aload_n hx hb dX8_begun_105 rfl (lv_at hl 4 rfl) ?_
              refine va_get (D := D) (ci := 8) (v := .ref (a 10)) (C := RX8) (T := TX8) (N := 28) hx hb htG in_8 hown hK hw.1 0 (mo_0 a k3 u) rfl 13 (by decide) f_39 (fun _ h9 => h9) rfl dX8_begun_106 ?_
              refine lv_iload hx hb dX8_begun_109 (lv_at hl 3 rfl) ?_
              have h15 := hq
              refine y_iald (t0 := 0) hx hb hK hw 7 (mo_10 a k3 u) rfl h15 dX8_begun_111 ?_
              refine lv_iadd hx hb dX8_begun_112 ?_
              refine lv_goto (tgt := 118) hx hb dX8_begun_113 (by decide) ?_
              exact ret_i hx hb hr hlocks hw dX8_begun_118 (congrArg (fun z => (z, u)) hP)
          · have hP := (if_neg c12).symm.trans hP
            refine lv_iconst (v := -1) hx hb dX8_begun_86 (by decide) ?_
            exact ret_i hx hb hr hlocks hw dX8_begun_87 (congrArg (fun z => (z, u)) hP)
    · have hP := (if_pos c2).symm.trans hP
      have hq := hq.1 c2
      refine lv_iconst (v := 0) hx hb dX8_begun_14 (by decide) ?_
      refine lv_goto (tgt := 32) hx hb dX8_begun_15 (by decide) ?_
      refine lv_iadd hx hb dX8_begun_32 ?_
      let v16 : Int32 := (x2 + (0 : Int32))
      refine lv_istore (lv' := [(5, .int v16), (4, .int v1), (0, .ref (a 0)), (1, .int x1), (2, .int x2), (3, .int x3)]) hx hb dX8_begun_33 hl (by decide) rfl (fun ls hl => ?_)
      refine lv_iload hx hb dX8_begun_35 (lv_at hl 0 rfl) ?_
      refine lv_ldc (v := 86400) hx hb hown k_112 dX8_begun_37 ?_
      refine lv_idiv hx hb dX8_begun_39 (by decide) ?_
      let v17 : Int32 := (v16 / (86400 : Int32))
      refine lv_istore (lv' := [(6, .int v17), (5, .int v16), (4, .int v1), (0, .ref (a 0)), (1, .int x1), (2, .int x2), (3, .int x3)]) hx hb dX8_begun_40 hl (by decide) rfl (fun ls hl => ?_)
      refine lv_iload hx hb dX8_begun_42 (lv_at hl 1 rfl) ?_
      refine lv_ldc (v := 86400) hx hb hown k_112 dX8_begun_44 ?_
      refine lv_irem hx hb dX8_begun_46 (by decide) ?_
      let v18 : Int32 := (v16 - v16 / (86400 : Int32) * (86400 : Int32))
      refine lv_istore (lv' := [(7, .int v18), (6, .int v17), (5, .int v16), (4, .int v1), (0, .ref (a 0)), (1, .int x1), (2, .int x2), (3, .int x3)]) hx hb dX8_begun_47 hl (by decide) rfl (fun ls hl => ?_)
      refine lv_iload hx hb dX8_begun_49 (lv_at hl 1 rfl) ?_
      refine lv_sipush (v := 366) hx hb dX8_begun_51 (by decide) ?_
      refine lv_icmp_ge (tgt := 86) hx hb dX8_begun_54 (by decide) (fun c19 => ?_) (fun c19 => ?_)
      · have hP := (if_pos c19).symm.trans hP
        refine lv_iconst (v := -1) hx hb dX8_begun_86 (by decide) ?_
        exact ret_i hx hb hr hlocks hw dX8_begun_87 (congrArg (fun z => (z, u)) hP)
      · have hP := (if_neg c19).symm.trans hP
        have hq := hq c19
        refine lv_aload_n hx hb dX8_begun_57 rfl (lv_at hl 4 rfl) ?_
        refine va_get (D := D) (ci := 8) (v := .ref (a 12)) (C := RX8) (T := TX8) (N := 28) hx hb htG in_8 hown hK hw.1 0 (mo_0 a k3 u) rfl 15 (by decide) f_45 (fun _ h9 => h9) rfl dX8_begun_58 ?_
        refine lv_sipush (v := 366) hx hb dX8_begun_61 (by decide) ?_
        refine lv_iload hx hb dX8_begun_64 (lv_at hl 3 rfl) ?_
        refine lv_imul hx hb dX8_begun_66 ?_
        refine lv_iload hx hb dX8_begun_67 (lv_at hl 1 rfl) ?_
        refine lv_iadd hx hb dX8_begun_69 ?_
        obtain ⟨h20, hq⟩ := hq
        refine y_zald (t0 := 2) hx hb hK hw 9 (mo_12 a k3 u) rfl h20 dX8_begun_70 ?_
        refine lv_if_ne (tgt := 86) hx hb dX8_begun_71 (by decide) (fun c21 => ?_) (fun c21 => ?_)
        · have hP := (if_neg c21).symm.trans hP
          refine lv_iconst (v := -1) hx hb dX8_begun_86 (by decide) ?_
          exact ret_i hx hb hr hlocks hw dX8_begun_87 (congrArg (fun z => (z, u)) hP)
        · have hP := (if_pos c21).symm.trans hP
          have hq := hq c21
          refine lv_iload hx hb dX8_begun_74 (lv_at hl 0 rfl) ?_
          refine lv_aload_n hx hb dX8_begun_76 rfl (lv_at hl 4 rfl) ?_
          refine va_get (D := D) (ci := 8) (v := .ref (a 11)) (C := RX8) (T := TX8) (N := 28) hx hb htG in_8 hown hK hw.1 0 (mo_0 a k3 u) rfl 14 (by decide) f_42 (fun _ h9 => h9) rfl dX8_begun_77 ?_
          refine lv_iload hx hb dX8_begun_80 (lv_at hl 3 rfl) ?_
          obtain ⟨h22, hq⟩ := hq
          refine y_iald (t0 := 0) hx hb hK hw 8 (mo_11 a k3 u) rfl h22 dX8_begun_82 ?_
          refine lv_icmp_le (tgt := 88) hx hb dX8_begun_83 (by decide) (fun c23 => ?_) (fun c23 => ?_)
          · have hP := (if_pos c23).symm.trans hP
            have hq := hq c23
            refine lv_iload hx hb dX8_begun_88 (lv_at hl 0 rfl) ?_
            refine lv_aload_n hx hb dX8_begun_90 rfl (lv_at hl 4 rfl) ?_
            refine va_get (D := D) (ci := 8) (v := .ref (a 10)) (C := RX8) (T := TX8) (N := 28) hx hb htG in_8 hown hK hw.1 0 (mo_0 a k3 u) rfl 13 (by decide) f_39 (fun _ h9 => h9) rfl dX8_begun_91 ?_
            refine lv_iload hx hb dX8_begun_94 (lv_at hl 3 rfl) ?_
            obtain ⟨h24, hq⟩ := hq
            refine y_iald (t0 := 0) hx hb hK hw 7 (mo_10 a k3 u) rfl h24 dX8_begun_96 ?_
            refine lv_icmp_ge (tgt := 116) hx hb dX8_begun_97 (by decide) (fun c25 => ?_) (fun c25 => ?_)
            · have hP := (if_pos c25).symm.trans hP
              refine lv_iload hx hb dX8_begun_116 (lv_at hl 2 rfl) ?_
              exact ret_i hx hb hr hlocks hw dX8_begun_118 (congrArg (fun z => (z, u)) hP)
            · have hP := (if_neg c25).symm.trans hP
              have hq := hq c25
              refine lv_iload hx hb dX8_begun_100 (lv_at hl 1 rfl) ?_
              refine lv_ldc (v := 86400) hx hb hown k_112 dX8_begun_102 ?_
              refine lv_imul hx hb dX8_begun_104 ?_
              refine lv_aload_n hx hb dX8_begun_105 rfl (lv_at hl 4 rfl) ?_
              refine va_get (D := D) (ci := 8) (v := .ref (a 10)) (C := RX8) (T := TX8) (N := 28) hx hb htG in_8 hown hK hw.1 0 (mo_0 a k3 u) rfl 13 (by decide) f_39 (fun _ h9 => h9) rfl dX8_begun_106 ?_
              refine lv_iload hx hb dX8_begun_109 (lv_at hl 3 rfl) ?_
              have h26 := hq
              refine y_iald (t0 := 0) hx hb hK hw 7 (mo_10 a k3 u) rfl h26 dX8_begun_111 ?_
              refine lv_iadd hx hb dX8_begun_112 ?_
              refine lv_goto (tgt := 118) hx hb dX8_begun_113 (by decide) ?_
              exact ret_i hx hb hr hlocks hw dX8_begun_118 (congrArg (fun z => (z, u)) hP)
          · have hP := (if_neg c23).symm.trans hP
            refine lv_iconst (v := -1) hx hb dX8_begun_86 (by decide) ?_
            exact ret_i hx hb hr hlocks hw dX8_begun_87 (congrArg (fun z => (z, u)) hP)
  exact hgo _ rfl s.heap [] hw
