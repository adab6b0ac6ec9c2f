theorem dX7_limit_0 : decode cX7_limit 0 = .ok (.iload_n 2, 1) := by decide +kernel
theorem dX7_limit_1 : decode cX7_limit 1 = .ok (.ifCond .eq 10, 3) := by decide +kernel
theorem dX7_limit_4 : decode cX7_limit 4 = .ok (.iload_n 2, 1) := by decide +kernel
theorem dX7_limit_5 : decode cX7_limit 5 = .ok (.iconst 1, 1) := by decide +kernel
theorem dX7_limit_6 : decode cX7_limit 6 = .ok (.if_icmp .eq 5, 3) := by decide +kernel
theorem dX7_limit_9 : decode cX7_limit 9 = .ok (.iconst 0, 1) := by decide +kernel
theorem dX7_limit_10 : decode cX7_limit 10 = .ok (.ireturn, 1) := by decide +kernel
theorem dX7_limit_11 : decode cX7_limit 11 = .ok (.lload_n 3, 1) := by decide +kernel
theorem dX7_limit_12 : decode cX7_limit 12 = .ok (.lconst 0, 1) := by decide +kernel
theorem dX7_limit_13 : decode cX7_limit 13 = .ok (.lcmp, 1) := by decide +kernel
theorem dX7_limit_14 : decode cX7_limit 14 = .ok (.ifCond .lt 11, 3) := by decide +kernel
theorem dX7_limit_17 : decode cX7_limit 17 = .ok (.lload_n 3, 1) := by decide +kernel
theorem dX7_limit_18 : decode cX7_limit 18 = .ok (.ldc2_w 80, 3) := by decide +kernel
theorem dX7_limit_21 : decode cX7_limit 21 = .ok (.lcmp, 1) := by decide +kernel
theorem dX7_limit_22 : decode cX7_limit 22 = .ok (.ifCond .le 5, 3) := by decide +kernel
theorem dX7_limit_25 : decode cX7_limit 25 = .ok (.iconst 0, 1) := by decide +kernel
theorem dX7_limit_26 : decode cX7_limit 26 = .ok (.ireturn, 1) := by decide +kernel
theorem dX7_limit_27 : decode cX7_limit 27 = .ok (.iload_n 1, 1) := by decide +kernel
theorem dX7_limit_28 : decode cX7_limit 28 = .ok (.iconst (-1), 1) := by decide +kernel
theorem dX7_limit_29 : decode cX7_limit 29 = .ok (.if_icmp .ne 15, 3) := by decide +kernel
theorem dX7_limit_32 : decode cX7_limit 32 = .ok (.aload_n 0, 1) := by decide +kernel
theorem dX7_limit_33 : decode cX7_limit 33 = .ok (.getfield 12, 3) := by decide +kernel
theorem dX7_limit_36 : decode cX7_limit 36 = .ok (.getfield 82, 3) := by decide +kernel
theorem dX7_limit_39 : decode cX7_limit 39 = .ok (.iload_n 2, 1) := by decide +kernel
theorem dX7_limit_40 : decode cX7_limit 40 = .ok (.lload_n 3, 1) := by decide +kernel
theorem dX7_limit_41 : decode cX7_limit 41 = .ok (.lastore, 1) := by decide +kernel
theorem dX7_limit_42 : decode cX7_limit 42 = .ok (.iconst 1, 1) := by decide +kernel
theorem dX7_limit_43 : decode cX7_limit 43 = .ok (.ireturn, 1) := by decide +kernel
theorem dX7_limit_44 : decode cX7_limit 44 = .ok (.aload_n 0, 1) := by decide +kernel
theorem dX7_limit_45 : decode cX7_limit 45 = .ok (.getfield 12, 3) := by decide +kernel
theorem dX7_limit_48 : decode cX7_limit 48 = .ok (.getfield 55, 3) := by decide +kernel
theorem dX7_limit_51 : decode cX7_limit 51 = .ok (.iload_n 1, 1) := by decide +kernel
theorem dX7_limit_52 : decode cX7_limit 52 = .ok (.invokevirtual 64, 3) := by decide +kernel
theorem dX7_limit_55 : decode cX7_limit 55 = .ok (.ifCond .ne 5, 3) := by decide +kernel
theorem dX7_limit_58 : decode cX7_limit 58 = .ok (.iconst 0, 1) := by decide +kernel
theorem dX7_limit_59 : decode cX7_limit 59 = .ok (.ireturn, 1) := by decide +kernel
theorem dX7_limit_60 : decode cX7_limit 60 = .ok (.aload_n 0, 1) := by decide +kernel
theorem dX7_limit_61 : decode cX7_limit 61 = .ok (.getfield 12, 3) := by decide +kernel
theorem dX7_limit_64 : decode cX7_limit 64 = .ok (.getfield 55, 3) := by decide +kernel
theorem dX7_limit_67 : decode cX7_limit 67 = .ok (.iload_n 1, 1) := by decide +kernel
theorem dX7_limit_68 : decode cX7_limit 68 = .ok (.iload_n 2, 1) := by decide +kernel
theorem dX7_limit_69 : decode cX7_limit 69 = .ok (.lload_n 3, 1) := by decide +kernel
theorem dX7_limit_70 : decode cX7_limit 70 = .ok (.invokevirtual 86, 3) := by decide +kernel
theorem dX7_limit_73 : decode cX7_limit 73 = .ok (.iconst 1, 1) := by decide +kernel
theorem dX7_limit_74 : decode cX7_limit 74 = .ok (.ireturn, 1) := by decide +kernel
abbrev rm_xO_limit : Room := { frames := 1, cells := 0, slots := 0, locals := 24 }
def xp_O_limit (u : S4) (x1 : Int32) (x2 : Int32) (x3 : Int64) : Int32 × S4 :=
  if x2 = (0 : Int32) then
    if (lg_cmp x3 (0 : Int64)) < (0 : Int32) then
      ((0 : Int32), u)
    else
      if (lg_cmp x3 (1000000 : Int64)) ≤ (0 : Int32) then
        if x1 = (-1 : Int32) then
          let u10 : S4 := s4_wb u 0 x2 x3
          ((1 : Int32), u10)
        else
          let r5 : Int32 := xp_Streets_has u x1
          if r5 = (0 : Int32) then
            ((0 : Int32), u)
          else
            let u8 : S4 := xp_Streets_setGreatest u x1 x2 x3
            ((1 : Int32), u8)
      else
        ((0 : Int32), u)
  else
    if x2 = (1 : Int32) then
      if (lg_cmp x3 (0 : Int64)) < (0 : Int32) then
        ((0 : Int32), u)
      else
        if (lg_cmp x3 (1000000 : Int64)) ≤ (0 : Int32) then
          if x1 = (-1 : Int32) then
            let u20 : S4 := s4_wb u 0 x2 x3
            ((1 : Int32), u20)
          else
            let r15 : Int32 := xp_Streets_has u x1
            if r15 = (0 : Int32) then
              ((0 : Int32), u)
            else
              let u18 : S4 := xp_Streets_setGreatest u x1 x2 x3
              ((1 : Int32), u18)
        else
          ((0 : Int32), u)
    else
      ((0 : Int32), u)
def xq_O_limit (u : S4) (x1 : Int32) (x2 : Int32) (x3 : Int64) : Prop :=
  ((x2 = (0 : Int32) →
    (¬ (lg_cmp x3 (0 : Int64)) < (0 : Int32) →
      ((lg_cmp x3 (1000000 : Int64)) ≤ (0 : Int32) →
        ((x1 = (-1 : Int32) →
          vp_in x2 2) ∧ (¬ x1 = (-1 : Int32) →
          let r5 : Int32 := xp_Streets_has u x1
          (¬ r5 = (0 : Int32) →
            xq_Streets_setGreatest u x1 x2 x3)))))) ∧ (¬ x2 = (0 : Int32) →
    (x2 = (1 : Int32) →
      (¬ (lg_cmp x3 (0 : Int64)) < (0 : Int32) →
        ((lg_cmp x3 (1000000 : Int64)) ≤ (0 : Int32) →
          ((x1 = (-1 : Int32) →
            vp_in x2 2) ∧ (¬ x1 = (-1 : Int32) →
            let r15 : Int32 := xp_Streets_has u x1
            (¬ r15 = (0 : Int32) →
              xq_Streets_setGreatest u x1 x2 x3))))))))
set_option maxHeartbeats 4000000 in
set_option maxRecDepth 100000 in
theorem xc_O_limit (l : Launch) (D : va_G) (a : Nat → Nat) (k3 : K3) (u : S4) (x1 : Int32) (x2 : Int32) (x3 : Int64) (hq : xq_O_limit u x1 x2 x3) : MI l D vwCl (ty3 k3) nestW (xC a k3) yX7_limit (kX7_limit :: tbG) rm_xO_limit [.ref (a 0), .int x1, .int x2, .long x3] u (xp_O_limit u x1 x2 x3) := by
  refine mkI (cc := cX7_limit) (maxL := 5) (ret := (some .boolean)) (by decide) rfl (Nat.le_of_ble_eq_true rfl) ?_
  intro p e s m below meth c A ls F hw hl
  generalize hav : ([.ref (a 0), .int x1, .int x2, .long x3] : List Value).toArray = av at F ⊢
  have hl : lv_has ls 5 [(0, .ref (a 0)), (1, .int x1), (2, .int x2), (3, .long x3)] := hl
  obtain ⟨hx, hb, hr, hml, hown, hts, hK, hN, hlocks, hA⟩ := id F
  have hown : s.vm.findClass RX7 = some m.cls := hown
  have htG : ∀ w ∈ tbG, w.before av s = true := fun w h => hts w (List.mem_cons_of_mem _ h)
  have k_80 := htG _ tb_261
  have f_12 := htG _ tb_188
  have f_55 := va_Nw.use (A := av) rfl (hN _ nw_6)
  have f_82 := va_Nw.use (A := av) rfl (hN _ nw_8)
  have hgo : ∀ P, xp_O_limit u x1 x2 x3 = P → ∀ (H : Heap) (locs : List Loc), wd D vwCl (xC a k3) A s.heap u H locs → W p l e rm_xO_limit s m av below meth c H locs 0 0 (QI below D vwCl (xC a k3) A av s P) (F0 m 0 ls []) := by
    intro P hP H locs hw
    refine lv_iload_n hx hb dX7_limit_0 rfl (lv_at hl 2 rfl) ?_
    refine lv_if_eq (tgt := 11) hx hb dX7_limit_1 (by decide) (fun c1 => ?_) (fun c1 => ?_)
    · have hP := (if_pos c1).symm.trans hP
      have hq := hq.1 c1
      refine lv_lload_n hx hb dX7_limit_11 rfl (lv_at hl 3 rfl) ?_
      refine lv_lconst (v := 0) hx hb dX7_limit_12 (by decide) ?_
      refine W.lcmp hx hb dX7_limit_13 ?_
      refine lv_if_lt (tgt := 25) hx hb dX7_limit_14 (by decide) (fun c2 => ?_) (fun c2 => ?_)
      · have hP := (if_pos c2).symm.trans hP
        refine lv_iconst (v := 0) hx hb dX7_limit_25 (by decide) ?_
        exact ret_z hx hb hr hlocks hw rfl dX7_limit_26 hP
      · have hP := (if_neg c2).symm.trans hP
        have hq := hq c2
        refine lv_lload_n hx hb dX7_limit_17 rfl (lv_at hl 3 rfl) ?_
        refine lv_ldc2 (v := 1000000) hx hb hown k_80 dX7_limit_18 ?_
        refine W.lcmp hx hb dX7_limit_21 ?_
        refine lv_if_le (tgt := 27) hx hb dX7_limit_22 (by decide) (fun c3 => ?_) (fun c3 => ?_)
        · have hP := (if_pos c3).symm.trans hP
          have hq := hq c3
          refine lv_iload_n hx hb dX7_limit_27 rfl (lv_at hl 1 rfl) ?_
          refine lv_iconst (v := -1) hx hb dX7_limit_28 (by decide) ?_
          refine lv_icmp_ne (tgt := 44) hx hb dX7_limit_29 (by decide) (fun c4 => ?_) (fun c4 => ?_)
          · have hP := (if_neg c4).symm.trans hP
            have hq := hq.2 c4
            refine lv_aload_n hx hb dX7_limit_44 rfl (lv_at hl 0 rfl) ?_
            refine va_get (D := D) (ci := 7) (v := .ref (a 1)) (C := RX7) (T := TX7) (N := 4) hx hb htG in_7 hown hK hw.1 0 (xo_0 a k3 u) rfl 0 (by decide) f_12 (fun _ h9 => h9) rfl dX7_limit_45 ?_
            refine va_getN (D := D) (ci := 2) (v := .ref (a 3)) (C := RX2) (T := TX2) (N := 5) hx hb htG in_2 hown hK hw.1 1 (xo_1 a k3 u) rfl 1 (by decide) f_55 (fun _ h9 => h9) rfl dX7_limit_48 ?_
            refine lv_iload_n hx hb dX7_limit_51 rfl (lv_at hl 1 rfl) ?_
            let r5 : Int32 := xp_Streets_has u x1
            refine call_vir (rest := []) ⟨hx, hb, hml, hown, htG⟩ nestW_ok hK hN hA (xc_Streets_has l D a k3 u x1) (cwV 1 htG (tb_V tb_240 tb_241 tb_242 tb_23 tb_243) rfl rfl rfl (by decide +kernel) ⟨Nat.le_of_ble_eq_true rfl, Nat.le_of_ble_eq_true rfl⟩) (ci := 5) rfl (xo_3 a k3 u) rfl hw rfl hl.1 rfl (Nat.le_of_ble_eq_true rfl) dX7_limit_52 ⟨Nat.zero_le _, Nat.zero_le _⟩ (fun H locs (hw : wd D vwCl (xC a k3) A s.heap u H locs) => ?_)
            refine lv_if_ne (tgt := 60) hx hb dX7_limit_55 (by decide) (fun c6 => ?_) (fun c6 => ?_)
            · have hP := (if_neg c6).symm.trans hP
              have hq := hq c6
              refine lv_aload_n hx hb dX7_limit_60 rfl (lv_at hl 0 rfl) ?_
              refine va_get (D := D) (ci := 7) (v := .ref (a 1)) (C := RX7) (T := TX7) (N := 4) hx hb htG in_7 hown hK hw.1 0 (xo_0 a k3 u) rfl 0 (by decide) f_12 (fun _ h9 => h9) rfl dX7_limit_61 ?_
              refine va_getN (D := D) (ci := 2) (v := .ref (a 3)) (C := RX2) (T := TX2) (N := 5) hx hb htG in_2 hown hK hw.1 1 (xo_1 a k3 u) rfl 1 (by decide) f_55 (fun _ h9 => h9) rfl dX7_limit_64 ?_
              refine lv_iload_n hx hb dX7_limit_67 rfl (lv_at hl 1 rfl) ?_
              refine lv_iload_n hx hb dX7_limit_68 rfl (lv_at hl 2 rfl) ?_
              refine lv_lload_n hx hb dX7_limit_69 rfl (lv_at hl 3 rfl) ?_
              have h7 := hq
              let u8 : S4 := xp_Streets_setGreatest u x1 x2 x3
              refine call_vv (rest := []) ⟨hx, hb, hml, hown, htG⟩ nestW_ok hK hN hA (xc_Streets_setGreatest l D a k3 u x1 x2 x3 h7) (cwV 3 htG (tb_V tb_262 tb_233 tb_234 tb_23 tb_235) rfl rfl rfl (by decide +kernel) ⟨Nat.le_of_ble_eq_true rfl, Nat.le_of_ble_eq_true rfl⟩) (ci := 5) rfl (xo_3 a k3 u) rfl hw rfl hl.1 rfl (Nat.le_of_ble_eq_true rfl) dX7_limit_70 ⟨Nat.zero_le _, Nat.zero_le _⟩ (fun H locs (hw : wd D vwCl (xC a k3) A s.heap u8 H locs) => ?_)
              refine lv_iconst (v := 1) hx hb dX7_limit_73 (by decide) ?_
              exact ret_z hx hb hr hlocks hw rfl dX7_limit_74 hP
            · have hP := (if_pos c6).symm.trans hP
              refine lv_iconst (v := 0) hx hb dX7_limit_58 (by decide) ?_
              exact ret_z hx hb hr hlocks hw rfl dX7_limit_59 hP
          · have hP := (if_pos c4).symm.trans hP
            have hq := hq.1 c4
            refine lv_aload_n hx hb dX7_limit_32 rfl (lv_at hl 0 rfl) ?_
            refine va_get (D := D) (ci := 7) (v := .ref (a 1)) (C := RX7) (T := TX7) (N := 4) hx hb htG in_7 hown hK hw.1 0 (xo_0 a k3 u) rfl 0 (by decide) f_12 (fun _ h9 => h9) rfl dX7_limit_33 ?_
            refine va_getN (D := D) (ci := 2) (v := .ref (a 8)) (C := RX2) (T := TX2) (N := 5) hx hb htG in_2 hown hK hw.1 1 (xo_1 a k3 u) rfl 3 (by decide) f_82 (fun _ h9 => h9) rfl dX7_limit_36 ?_
            refine lv_iload_n hx hb dX7_limit_39 rfl (lv_at hl 2 rfl) ?_
            refine lv_lload_n hx hb dX7_limit_40 rfl (lv_at hl 3 rfl) ?_
            have h9 := hq
            let u10 : S4 := s4_wb u 0 x2 x3
            refine y_last (t0 := 1) hx hb hK hw 0 (xo_8 a k3 u) (xq_8 a k3 u) rfl h9 dX7_limit_41 (fun H locs (hw : wd D vwCl (xC a k3) A s.heap u10 H locs) => ?_)
            refine lv_iconst (v := 1) hx hb dX7_limit_42 (by decide) ?_
            exact ret_z hx hb hr hlocks hw rfl dX7_limit_43 hP
        · have hP := (if_neg c3).symm.trans hP
          refine lv_iconst (v := 0) hx hb dX7_limit_25 (by decide) ?_
          exact ret_z hx hb hr hlocks hw rfl dX7_limit_26 hP
    · have hP := (if_neg c1).symm.trans hP
      have hq := hq.2 c1
      refine lv_iload_n hx hb dX7_limit_4 rfl (lv_at hl 2 rfl) ?_
      refine lv_iconst (v := 1) hx hb dX7_limit_5 (by decide) ?_
      refine lv_icmp_eq (tgt := 11) hx hb dX7_limit_6 (by decide) (fun c11 => ?_) (fun c11 => ?_)
      · have hP := (if_pos c11).symm.trans hP
        have hq := hq c11
        refine lv_lload_n hx hb dX7_limit_11 rfl (lv_at hl 3 rfl) ?_
        refine lv_lconst (v := 0) hx hb dX7_limit_12 (by decide) ?_
        refine W.lcmp hx hb dX7_limit_13 ?_
        refine lv_if_lt (tgt := 25) hx hb dX7_limit_14 (by decide) (fun c12 => ?_) (fun c12 => ?_)
        · have hP := (if_pos c12).symm.trans hP
          refine lv_iconst (v := 0) hx hb dX7_limit_25 (by decide) ?_
          exact ret_z hx hb hr hlocks hw rfl dX7_limit_26 hP
        · have hP := (if_neg c12).symm.trans hP
          have hq := hq c12
          refine lv_lload_n hx hb dX7_limit_17 rfl (lv_at hl 3 rfl) ?_
          refine lv_ldc2 (v := 1000000) hx hb hown k_80 dX7_limit_18 ?_
          refine W.lcmp hx hb dX7_limit_21 ?_
          refine lv_if_le (tgt := 27) hx hb dX7_limit_22 (by decide) (fun c13 => ?_) (fun c13 => ?_)
          · have hP := (if_pos c13).symm.trans hP
            have hq := hq c13
            refine lv_iload_n hx hb dX7_limit_27 rfl (lv_at hl 1 rfl) ?_
            refine lv_iconst (v := -1) hx hb dX7_limit_28 (by decide) ?_
            refine lv_icmp_ne (tgt := 44) hx hb dX7_limit_29 (by decide) (fun c14 => ?_) (fun c14 => ?_)
            · have hP := (if_neg c14).symm.trans hP
              have hq := hq.2 c14
              refine lv_aload_n hx hb dX7_limit_44 rfl (lv_at hl 0 rfl) ?_
              refine va_get (D := D) (ci := 7) (v := .ref (a 1)) (C := RX7) (T := TX7) (N := 4) hx hb htG in_7 hown hK hw.1 0 (xo_0 a k3 u) rfl 0 (by decide) f_12 (fun _ h9 => h9) rfl dX7_limit_45 ?_
              refine va_getN (D := D) (ci := 2) (v := .ref (a 3)) (C := RX2) (T := TX2) (N := 5) hx hb htG in_2 hown hK hw.1 1 (xo_1 a k3 u) rfl 1 (by decide) f_55 (fun _ h9 => h9) rfl dX7_limit_48 ?_
              refine lv_iload_n hx hb dX7_limit_51 rfl (lv_at hl 1 rfl) ?_
              let r15 : Int32 := xp_Streets_has u x1
              refine call_vir (rest := []) ⟨hx, hb, hml, hown, htG⟩ nestW_ok hK hN hA (xc_Streets_has l D a k3 u x1) (cwV 1 htG (tb_V tb_240 tb_241 tb_242 tb_23 tb_243) rfl rfl rfl (by decide +kernel) ⟨Nat.le_of_ble_eq_true rfl, Nat.le_of_ble_eq_true rfl⟩) (ci := 5) rfl (xo_3 a k3 u) rfl hw rfl hl.1 rfl (Nat.le_of_ble_eq_true rfl) dX7_limit_52 ⟨Nat.zero_le _, Nat.zero_le _⟩ (fun H locs (hw : wd D vwCl (xC a k3) A s.heap u H locs) => ?_)
              refine lv_if_ne (tgt := 60) hx hb dX7_limit_55 (by decide) (fun c16 => ?_) (fun c16 => ?_)
              · have hP := (if_neg c16).symm.trans hP
                have hq := hq c16
                refine lv_aload_n hx hb dX7_limit_60 rfl (lv_at hl 0 rfl) ?_
                refine va_get (D := D) (ci := 7) (v := .ref (a 1)) (C := RX7) (T := TX7) (N := 4) hx hb htG in_7 hown hK hw.1 0 (xo_0 a k3 u) rfl 0 (by decide) f_12 (fun _ h9 => h9) rfl dX7_limit_61 ?_
                refine va_getN (D := D) (ci := 2) (v := .ref (a 3)) (C := RX2) (T := TX2) (N := 5) hx hb htG in_2 hown hK hw.1 1 (xo_1 a k3 u) rfl 1 (by decide) f_55 (fun _ h9 => h9) rfl dX7_limit_64 ?_
                refine lv_iload_n hx hb dX7_limit_67 rfl (lv_at hl 1 rfl) ?_
                refine lv_iload_n hx hb dX7_limit_68 rfl (lv_at hl 2 rfl) ?_
                refine lv_lload_n hx hb dX7_limit_69 rfl (lv_at hl 3 rfl) ?_
                have h17 := hq
                let u18 : S4 := xp_Streets_setGreatest u x1 x2 x3
                refine call_vv (rest := []) ⟨hx, hb, hml, hown, htG⟩ nestW_ok hK hN hA (xc_Streets_setGreatest l D a k3 u x1 x2 x3 h17) (cwV 3 htG (tb_V tb_262 tb_233 tb_234 tb_23 tb_235) rfl rfl rfl (by decide +kernel) ⟨Nat.le_of_ble_eq_true rfl, Nat.le_of_ble_eq_true rfl⟩) (ci := 5) rfl (xo_3 a k3 u) rfl hw rfl hl.1 rfl (Nat.le_of_ble_eq_true rfl) dX7_limit_70 ⟨Nat.zero_le _, Nat.zero_le _⟩ (fun H locs (hw : wd D vwCl (xC a k3) A s.heap u18 H locs) => ?_)
                refine lv_iconst (v := 1) hx hb dX7_limit_73 (by decide) ?_
                exact ret_z hx hb hr hlocks hw rfl dX7_limit_74 hP
              · have hP := (if_pos c16).symm.trans hP
                refine lv_iconst (v := 0) hx hb dX7_limit_58 (by decide) ?_
                exact ret_z hx hb hr hlocks hw rfl dX7_limit_59 hP
            · have hP := (if_pos c14).symm.trans hP
              have hq := hq.1 c14
              refine lv_aload_n hx hb dX7_limit_32 rfl (lv_at hl 0 rfl) ?_
              refine va_get (D := D) (ci := 7) (v := .ref (a 1)) (C := RX7) (T := TX7) (N := 4) hx hb htG in_7 hown hK hw.1 0 (xo_0 a k3 u) rfl 0 (by decide) f_12 (fun _ h9 => h9) rfl dX7_limit_33 ?_
              refine va_getN (D := D) (ci := 2) (v := .ref (a 8)) (C := RX2) (T := TX2) (N := 5) hx hb htG in_2 hown hK hw.1 1 (xo_1 a k3 u) rfl 3 (by decide) f_82 (fun _ h9 => h9) rfl dX7_limit_36 ?_
              refine lv_iload_n hx hb dX7_limit_39 rfl (lv_at hl 2 rfl) ?_
              refine lv_lload_n hx hb dX7_limit_40 rfl (lv_at hl 3 rfl) ?_
              have h19 := hq
              let u20 : S4 := s4_wb u 0 x2 x3
              refine y_last (t0 := 1) hx hb hK hw 0 (xo_8 a k3 u) (xq_8 a k3 u) rfl h19 dX7_limit_41 (fun H locs (hw : wd D vwCl (xC a k3) A s.heap u20 H locs) => ?_)
              refine lv_iconst (v := 1) hx hb dX7_limit_42 (by decide) ?_
              exact ret_z hx hb hr hlocks hw rfl dX7_limit_43 hP
          · have hP := (if_neg c13).symm.trans hP
            refine lv_iconst (v := 0) hx hb dX7_limit_25 (by decide) ?_
            exact ret_z hx hb hr hlocks hw rfl dX7_limit_26 hP
      · have hP := (if_neg c11).symm.trans hP
        refine lv_iconst (v := 0) hx hb dX7_limit_9 (by decide) ?_
        exact ret_z hx hb hr hlocks hw rfl dX7_limit_10 hP
  exact hgo _ rfl s.heap [] hw
theorem dX3_setTurningPlace_0 : decode cX3_setTurningPlace 0 = .ok (.aload_n 0, 1) := by decide +kernel
theorem dX3_setTurningPlace_1 : decode cX3_setTurningPlace 1 = .ok (.getfield 18, 3) := by decide +kernel
theorem dX3_setTurningPlace_4 : decode cX3_setTurningPlace 4 = .ok (.iload_n 1, 1) := by decide +kernel
theorem dX3_setTurningPlace_5 : decode cX3_setTurningPlace 5 = .ok (.iload_n 2, 1) := by decide +kernel
theorem dX3_setTurningPlace_6 : decode cX3_setTurningPlace 6 = .ok (.bastore, 1) := by decide +kernel
theorem dX3_setTurningPlace_7 : decode cX3_setTurningPlace 7 = .ok (.return_, 1) := by decide +kernel
abbrev rm_xNodes_setTurningPlace : Room := { frames := 0, cells := 0, slots := 0, locals := 0 }
def xp_Nodes_setTurningPlace (u : S4) (x1 : Int32) (x2 : Int32) : S4 :=
  let u2 : S4 := s4_wz u 1 x1 x2
  u2
def xq_Nodes_setTurningPlace (u : S4) (x1 : Int32) (x2 : Int32) : Prop :=
  vp_in x1 8
set_option maxHeartbeats 4000000 in
set_option maxRecDepth 100000 in
theorem xc_Nodes_setTurningPlace (l : Launch) (D : va_G) (a : Nat → Nat) (k3 : K3) (u : S4) (x1 : Int32) (x2 : Int32) (hq : xq_Nodes_setTurningPlace u x1 x2) : MV l D vwCl (ty3 k3) nestW (xC a k3) yX3_setTurningPlace (kX3_setTurningPlace :: tbG) rm_xNodes_setTurningPlace [.ref (a 2), .int x1, .int x2] u (xp_Nodes_setTurningPlace u x1 x2) := by
  refine mkV (cc := cX3_setTurningPlace) (maxL := 3) (ret := none) (by decide) rfl (Nat.le_of_ble_eq_true rfl) ?_
  intro p e s m below meth c A ls F hw hl
  generalize hav : ([.ref (a 2), .int x1, .int x2] : List Value).toArray = av at F ⊢
  have hl : lv_has ls 3 [(0, .ref (a 2)), (1, .int x1), (2, .int x2)] := hl
  obtain ⟨hx, hb, hr, hml, hown, hts, hK, hN, hlocks, hA⟩ := id F
  have hown : s.vm.findClass RX3 = some m.cls := hown
  have htG : ∀ w ∈ tbG, w.before av s = true := fun w h => hts w (List.mem_cons_of_mem _ h)
  have f_18 := htG _ tb_52
  have hgo : ∀ P, xp_Nodes_setTurningPlace u x1 x2 = P → ∀ (H : Heap) (locs : List Loc), wd D vwCl (xC a k3) A s.heap u H locs → W p l e rm_xNodes_setTurningPlace s m av below meth c H locs 0 0 (QV below D vwCl (xC a k3) A av s P) (F0 m 0 ls []) := by
    intro P hP H locs hw
    refine lv_aload_n hx hb dX3_setTurningPlace_0 rfl (lv_at hl 0 rfl) ?_
    refine va_get (D := D) (ci := 3) (v := .ref (a 12)) (C := RX3) (T := TX3) (N := 4) hx hb htG in_3 hown hK hw.1 2 (xo_2 a k3 u) rfl 2 (by decide) f_18 (fun _ h9 => h9) rfl dX3_setTurningPlace_1 ?_
    refine lv_iload_n hx hb dX3_setTurningPlace_4 rfl (lv_at hl 1 rfl) ?_
    refine lv_iload_n hx hb dX3_setTurningPlace_5 rfl (lv_at hl 2 rfl) ?_
    have h1 := hq
    let u2 : S4 := s4_wz u 1 x1 x2
    refine y_zast (t0 := 2) hx hb hK hw 1 (xo_12 a k3 u) (xq_12 a k3 u) rfl h1 dX3_setTurningPlace_6 (fun H locs (hw : wd D vwCl (xC a k3) A s.heap u2 H locs) => ?_)
    exact ret_v hx hb hr hlocks hw dX3_setTurningPlace_7 hP
  exact hgo _ rfl s.heap [] hw
theorem dX7_deadEnd_0 : decode cX7_deadEnd 0 = .ok (.aload_n 0, 1) := by decide +kernel
theorem dX7_deadEnd_1 : decode cX7_deadEnd 1 = .ok (.getfield 12, 3) := by decide +kernel
theorem dX7_deadEnd_4 : decode cX7_deadEnd 4 = .ok (.getfield 41, 3) := by decide +kernel
theorem dX7_deadEnd_7 : decode cX7_deadEnd 7 = .ok (.iload_n 1, 1) := by decide +kernel
theorem dX7_deadEnd_8 : decode cX7_deadEnd 8 = .ok (.invokevirtual 51, 3) := by decide +kernel
theorem dX7_deadEnd_11 : decode cX7_deadEnd 11 = .ok (.ifCond .ne 5, 3) := by decide +kernel
theorem dX7_deadEnd_14 : decode cX7_deadEnd 14 = .ok (.iconst 0, 1) := by decide +kernel
theorem dX7_deadEnd_15 : decode cX7_deadEnd 15 = .ok (.ireturn, 1) := by decide +kernel
theorem dX7_deadEnd_16 : decode cX7_deadEnd 16 = .ok (.aload_n 0, 1) := by decide +kernel
theorem dX7_deadEnd_17 : decode cX7_deadEnd 17 = .ok (.getfield 12, 3) := by decide +kernel
theorem dX7_deadEnd_20 : decode cX7_deadEnd 20 = .ok (.getfield 41, 3) := by decide +kernel
theorem dX7_deadEnd_23 : decode cX7_deadEnd 23 = .ok (.iload_n 1, 1) := by decide +kernel
theorem dX7_deadEnd_24 : decode cX7_deadEnd 24 = .ok (.iload_n 2, 1) := by decide +kernel
theorem dX7_deadEnd_25 : decode cX7_deadEnd 25 = .ok (.invokevirtual 90, 3) := by decide +kernel
theorem dX7_deadEnd_28 : decode cX7_deadEnd 28 = .ok (.iconst 1, 1) := by decide +kernel
theorem dX7_deadEnd_29 : decode cX7_deadEnd 29 = .ok (.ireturn, 1) := by decide +kernel
abbrev rm_xO_deadEnd : Room := { frames := 1, cells := 0, slots := 0, locals := 22 }
def xp_O_deadEnd (u : S4) (x1 : Int32) (x2 : Int32) : Int32 × S4 :=
  let r1 : Int32 := xp_Nodes_has u x1
  if r1 = (0 : Int32) then
    ((0 : Int32), u)
  else
    let u4 : S4 := xp_Nodes_setTurningPlace u x1 x2
    ((1 : Int32), u4)
def xq_O_deadEnd (u : S4) (x1 : Int32) (x2 : Int32) : Prop :=
  let r1 : Int32 := xp_Nodes_has u x1
  (¬ r1 = (0 : Int32) →
    xq_Nodes_setTurningPlace u x1 x2)
set_option maxHeartbeats 4000000 in
set_option maxRecDepth 100000 in
theorem xc_O_deadEnd (l : Launch) (D : va_G) (a : Nat → Nat) (k3 : K3) (u : S4) (x1 : Int32) (x2 : Int32) (hq : xq_O_deadEnd u x1 x2) : MI l D vwCl (ty3 k3) nestW (xC a k3) yX7_deadEnd (kX7_deadEnd :: tbG) rm_xO_deadEnd [.ref (a 0), .int x1, .int x2] u (xp_O_deadEnd u x1 x2) := by
  refine mkI (cc := cX7_deadEnd) (maxL := 3) (ret := (some .boolean)) (by decide) rfl (Nat.le_of_ble_eq_true rfl) ?_
  intro p e s m below meth c A ls F hw hl
  generalize hav : ([.ref (a 0), .int x1, .int x2] : List Value).toArray = av at F ⊢
  have hl : lv_has ls 3 [(0, .ref (a 0)), (1, .int x1), (2, .int x2)] := hl
  obtain ⟨hx, hb, hr, hml, hown, hts, hK, hN, hlocks, hA⟩ := id F
  have hown : s.vm.findClass RX7 = some m.cls := hown
  have htG : ∀ w ∈ tbG, w.before av s = true := fun w h => hts w (List.mem_cons_of_mem _ h)
  have f_12 := htG _ tb_188
  have f_41 := va_Nw.use (A := av) rfl (hN _ nw_4)
  have hgo : ∀ P, xp_O_deadEnd u x1 x2 = P → ∀ (H : Heap) (locs : List Loc), wd D vwCl (xC a k3) A s.heap u H locs → W p l e rm_xO_deadEnd s m av below meth c H locs 0 0 (QI below D vwCl (xC a k3) A av s P) (F0 m 0 ls []) := by
    intro P hP H locs hw
    refine lv_aload_n hx hb dX7_deadEnd_0 rfl (lv_at hl 0 rfl) ?_
    refine va_get (D := D) (ci := 7) (v := .ref (a 1)) (C := RX7) (T := TX7) (N := 4) hx hb htG in_7 hown hK hw.1 0 (xo_0 a k3 u) rfl 0 (by decide) f_12 (fun _ h9 => h9) rfl dX7_deadEnd_1 ?_
    refine va_getN (D := D) (ci := 2) (v := .ref (a 2)) (C := RX2) (T := TX2) (N := 5) hx hb htG in_2 hown hK hw.1 1 (xo_1 a k3 u) rfl 0 (by decide) f_41 (fun _ h9 => h9) rfl dX7_deadEnd_4 ?_
    refine lv_iload_n hx hb dX7_deadEnd_7 rfl (lv_at hl 1 rfl) ?_
    let r1 : Int32 := xp_Nodes_has u x1
    refine call_vir (rest := []) ⟨hx, hb, hml, hown, htG⟩ nestW_ok hK hN hA (xc_Nodes_has l D a k3 u x1) (cwV 1 htG (tb_V tb_218 tb_219 tb_220 tb_22 tb_221) rfl rfl rfl (by decide +kernel) ⟨Nat.le_of_ble_eq_true rfl, Nat.le_of_ble_eq_true rfl⟩) (ci := 3) rfl (xo_2 a k3 u) rfl hw rfl hl.1 rfl (Nat.le_of_ble_eq_true rfl) dX7_deadEnd_8 ⟨Nat.zero_le _, Nat.zero_le _⟩ (fun H locs (hw : wd D vwCl (xC a k3) A s.heap u H locs) => ?_)
    refine lv_if_ne (tgt := 16) hx hb dX7_deadEnd_11 (by decide) (fun c2 => ?_) (fun c2 => ?_)
    · have hP := (if_neg c2).symm.trans hP
      have hq := hq c2
      refine lv_aload_n hx hb dX7_deadEnd_16 rfl (lv_at hl 0 rfl) ?_
      refine va_get (D := D) (ci := 7) (v := .ref (a 1)) (C := RX7) (T := TX7) (N := 4) hx hb htG in_7 hown hK hw.1 0 (xo_0 a k3 u) rfl 0 (by decide) f_12 (fun _ h9 => h9) rfl dX7_deadEnd_17 ?_
      refine va_getN (D := D) (ci := 2) (v := .ref (a 2)) (C := RX2) (T := TX2) (N := 5) hx hb htG in_2 hown hK hw.1 1 (xo_1 a k3 u) rfl 0 (by decide) f_41 (fun _ h9 => h9) rfl dX7_deadEnd_20 ?_
      refine lv_iload_n hx hb dX7_deadEnd_23 rfl (lv_at hl 1 rfl) ?_
      refine lv_iload_n hx hb dX7_deadEnd_24 rfl (lv_at hl 2 rfl) ?_
      have h3 := hq
      let u4 : S4 := xp_Nodes_setTurningPlace u x1 x2
      refine call_vv (rest := []) ⟨hx, hb, hml, hown, htG⟩ nestW_ok hK hN hA (xc_Nodes_setTurningPlace l D a k3 u x1 x2 h3) (cwV 2 htG (tb_V tb_267 tb_268 tb_269 tb_22 tb_270) rfl rfl rfl (by decide +kernel) ⟨Nat.le_of_ble_eq_true rfl, Nat.le_of_ble_eq_true rfl⟩) (ci := 3) rfl (xo_2 a k3 u) rfl hw rfl hl.1 rfl (Nat.le_of_ble_eq_true rfl) dX7_deadEnd_25 ⟨Nat.zero_le _, Nat.zero_le _⟩ (fun H locs (hw : wd D vwCl (xC a k3) A s.heap u4 H locs) => ?_)
      refine lv_iconst (v := 1) hx hb dX7_deadEnd_28 (by decide) ?_
      exact ret_z hx hb hr hlocks hw rfl dX7_deadEnd_29 hP
    · have hP := (if_pos c2).symm.trans hP
      refine lv_iconst (v := 0) hx hb dX7_deadEnd_14 (by decide) ?_
      exact ret_z hx hb hr hlocks hw rfl dX7_deadEnd_15 hP
  exact hgo _ rfl s.heap [] hw
theorem dX5_wordOf_0 : decode cX5_wordOf 0 = .ok (.iload_n 0, 1) := by decide +kernel
theorem dX5_wordOf_1 : decode cX5_wordOf 1 = .ok (.bipush 6, 2) := by decide +kernel
theorem dX5_wordOf_3 : decode cX5_wordOf 3 = .ok (.imul, 1) := by decide +kernel
theorem dX5_wordOf_4 : decode cX5_wordOf 4 = .ok (.iload_n 1, 1) := by decide +kernel
theorem dX5_wordOf_5 : decode cX5_wordOf 5 = .ok (.bipush 64, 2) := by decide +kernel
theorem dX5_wordOf_7 : decode cX5_wordOf 7 = .ok (.idiv, 1) := by decide +kernel
theorem dX5_wordOf_8 : decode cX5_wordOf 8 = .ok (.iadd, 1) := by decide +kernel
theorem dX5_wordOf_9 : decode cX5_wordOf 9 = .ok (.ireturn, 1) := by decide +kernel
abbrev rm_xStreets_wordOf : Room := { frames := 0, cells := 0, slots := 0, locals := 0 }
def xp_Streets_wordOf (u : S4) (x0 : Int32) (x1 : Int32) : Int32 :=
  ((x0 * (6 : Int32)) + (x1 / (64 : Int32)))
set_option maxHeartbeats 4000000 in
set_option maxRecDepth 100000 in
theorem xc_Streets_wordOf (l : Launch) (D : va_G) (a : Nat → Nat) (k3 : K3) (u : S4) (x0 : Int32) (x1 : Int32) : MI l D vwCl (ty3 k3) nestW (xC a k3) yX5_wordOf (kX5_wordOf :: tbG) rm_xStreets_wordOf [.int x0, .int x1] u (xp_Streets_wordOf u x0 x1, u) := by
  refine mkI (cc := cX5_wordOf) (maxL := 2) (ret := (some .int)) (by decide) rfl (Nat.le_of_ble_eq_true rfl) ?_
  intro p e s m below meth c A ls F hw hl
  generalize hav : ([.int x0, .int x1] : List Value).toArray = av at F ⊢
  have hl : lv_has ls 2 [(0, .int x0), (1, .int x1)] := hl
  obtain ⟨hx, hb, hr, hml, hown, hts, hK, hN, hlocks, hA⟩ := id F
  have hown : s.vm.findClass RX5 = some m.cls := hown
  have htG : ∀ w ∈ tbG, w.before av s = true := fun w h => hts w (List.mem_cons_of_mem _ h)
  have hgo : ∀ P, xp_Streets_wordOf u x0 x1 = P → ∀ (H : Heap) (locs : List Loc), wd D vwCl (xC a k3) A s.heap u H locs → W p l e rm_xStreets_wordOf s m av below meth c H locs 0 0 (QI below D vwCl (xC a k3) A av s (P, u)) (F0 m 0 ls []) := by
    intro P hP H locs hw
    refine lv_iload_n hx hb dX5_wordOf_0 rfl (lv_at hl 0 rfl) ?_
    refine lv_bipush (v := 6) hx hb dX5_wordOf_1 (by decide) ?_
    refine lv_imul hx hb dX5_wordOf_3 ?_
    refine lv_iload_n hx hb dX5_wordOf_4 rfl (lv_at hl 1 rfl) ?_
    refine lv_bipush (v := 64) hx hb dX5_wordOf_5 (by decide) ?_
    refine lv_idiv hx hb dX5_wordOf_7 (by decide) ?_
    refine lv_iadd hx hb dX5_wordOf_8 ?_
    exact ret_i hx hb hr hlocks hw dX5_wordOf_9 (congrArg (fun z => (z, u)) hP)
  exact hgo _ rfl s.heap [] hw
theorem dX5_bitOf_0 : decode cX5_bitOf 0 = .ok (.lconst 1, 1) := by decide +kernel
theorem dX5_bitOf_1 : decode cX5_bitOf 1 = .ok (.iload_n 0, 1) := by decide +kernel
theorem dX5_bitOf_2 : decode cX5_bitOf 2 = .ok (.bipush 64, 2) := by decide +kernel
theorem dX5_bitOf_4 : decode cX5_bitOf 4 = .ok (.irem, 1) := by decide +kernel
theorem dX5_bitOf_5 : decode cX5_bitOf 5 = .ok (.lshl, 1) := by decide +kernel
theorem dX5_bitOf_6 : decode cX5_bitOf 6 = .ok (.lreturn, 1) := by decide +kernel
abbrev rm_xStreets_bitOf : Room := { frames := 0, cells := 0, slots := 0, locals := 0 }
def xp_Streets_bitOf (u : S4) (x0 : Int32) : Int64 :=
  ((1 : Int64) <<< (((x0 - x0 / (64 : Int32) * (64 : Int32))).toInt64 &&& 63))
set_option maxHeartbeats 4000000 in
set_option maxRecDepth 100000 in
theorem xc_Streets_bitOf (l : Launch) (D : va_G) (a : Nat → Nat) (k3 : K3) (u : S4) (x0 : Int32) : ML l D vwCl (ty3 k3) nestW (xC a k3) yX5_bitOf (kX5_bitOf :: tbG) rm_xStreets_bitOf [.int x0] u (xp_Streets_bitOf u x0, u) := by
  refine mkL (cc := cX5_bitOf) (maxL := 1) (ret := (some .long)) (by decide) rfl (Nat.le_of_ble_eq_true rfl) ?_
  intro p e s m below meth c A ls F hw hl
  generalize hav : ([.int x0] : List Value).toArray = av at F ⊢
  have hl : lv_has ls 1 [(0, .int x0)] := hl
  obtain ⟨hx, hb, hr, hml, hown, hts, hK, hN, hlocks, hA⟩ := id F
  have hown : s.vm.findClass RX5 = some m.cls := hown
  have htG : ∀ w ∈ tbG, w.before av s = true := fun w h => hts w (List.mem_cons_of_mem _ h)
  have hgo : ∀ P, xp_Streets_bitOf u x0 = P → ∀ (H : Heap) (locs : List Loc), wd D vwCl (xC a k3) A s.heap u H locs → W p l e rm_xStreets_bitOf s m av below meth c H locs 0 0 (QL below D vwCl (xC a k3) A av s (P, u)) (F0 m 0 ls []) := by
    intro P hP H locs hw
    refine lv_lconst (v := 1) hx hb dX5_bitOf_0 (by decide) ?_
    refine lv_iload_n hx hb dX5_bitOf_1 rfl (lv_at hl 0 rfl) ?_
    refine lv_bipush (v := 64) hx hb dX5_bitOf_2 (by decide) ?_
    refine lv_irem hx hb dX5_bitOf_4 (by decide) ?_
    refine lv_lshl hx hb dX5_bitOf_5 rfl ?_
    exact ret_l hx hb hr hlocks hw dX5_bitOf_6 (congrArg (fun z => (z, u)) hP)
  exact hgo _ rfl s.heap [] hw
theorem dX5_setClosed_0 : decode cX5_setClosed 0 = .ok (.iload_n 1, 1) := by decide +kernel
theorem dX5_setClosed_1 : decode cX5_setClosed 1 = .ok (.iload_n 2, 1) := by decide +kernel
theorem dX5_setClosed_2 : decode cX5_setClosed 2 = .ok (.invokestatic 52, 3) := by decide +kernel
theorem dX5_setClosed_5 : decode cX5_setClosed 5 = .ok (.istore 4, 2) := by decide +kernel
theorem dX5_setClosed_7 : decode cX5_setClosed 7 = .ok (.iload_n 2, 1) := by decide +kernel
theorem dX5_setClosed_8 : decode cX5_setClosed 8 = .ok (.invokestatic 56, 3) := by decide +kernel
theorem dX5_setClosed_11 : decode cX5_setClosed 11 = .ok (.lstore 5, 2) := by decide +kernel
theorem dX5_setClosed_13 : decode cX5_setClosed 13 = .ok (.aload_n 0, 1) := by decide +kernel
theorem dX5_setClosed_14 : decode cX5_setClosed 14 = .ok (.getfield 34, 3) := by decide +kernel
theorem dX5_setClosed_17 : decode cX5_setClosed 17 = .ok (.iload 4, 2) := by decide +kernel
theorem dX5_setClosed_19 : decode cX5_setClosed 19 = .ok (.iload_n 3, 1) := by decide +kernel
theorem dX5_setClosed_20 : decode cX5_setClosed 20 = .ok (.ifCond .eq 16, 3) := by decide +kernel
theorem dX5_setClosed_23 : decode cX5_setClosed 23 = .ok (.aload_n 0, 1) := by decide +kernel
theorem dX5_setClosed_24 : decode cX5_setClosed 24 = .ok (.getfield 34, 3) := by decide +kernel
theorem dX5_setClosed_27 : decode cX5_setClosed 27 = .ok (.iload 4, 2) := by decide +kernel
theorem dX5_setClosed_29 : decode cX5_setClosed 29 = .ok (.laload, 1) := by decide +kernel
theorem dX5_setClosed_30 : decode cX5_setClosed 30 = .ok (.lload 5, 2) := by decide +kernel
theorem dX5_setClosed_32 : decode cX5_setClosed 32 = .ok (.lor, 1) := by decide +kernel
theorem dX5_setClosed_33 : decode cX5_setClosed 33 = .ok (.goto 17, 3) := by decide +kernel
theorem dX5_setClosed_36 : decode cX5_setClosed 36 = .ok (.aload_n 0, 1) := by decide +kernel
theorem dX5_setClosed_37 : decode cX5_setClosed 37 = .ok (.getfield 34, 3) := by decide +kernel
theorem dX5_setClosed_40 : decode cX5_setClosed 40 = .ok (.iload 4, 2) := by decide +kernel
theorem dX5_setClosed_42 : decode cX5_setClosed 42 = .ok (.laload, 1) := by decide +kernel
theorem dX5_setClosed_43 : decode cX5_setClosed 43 = .ok (.lload 5, 2) := by decide +kernel
theorem dX5_setClosed_45 : decode cX5_setClosed 45 = .ok (.ldc2_w 60, 3) := by decide +kernel
theorem dX5_setClosed_48 : decode cX5_setClosed 48 = .ok (.lxor, 1) := by decide +kernel
theorem dX5_setClosed_49 : decode cX5_setClosed 49 = .ok (.land, 1) := by decide +kernel
theorem dX5_setClosed_50 : decode cX5_setClosed 50 = .ok (.lastore, 1) := by decide +kernel
theorem dX5_setClosed_51 : decode cX5_setClosed 51 = .ok (.return_, 1) := by decide +kernel
abbrev rm_xStreets_setClosed : Room := { frames := 1, cells := 0, slots := 0, locals := 21 }
def xp_Streets_setClosed (u : S4) (x1 : Int32) (x2 : Int32) (x3 : Int32) : S4 :=
  let r1 : Int32 := xp_Streets_wordOf u x1 x2
  let r2 : Int64 := xp_Streets_bitOf u x2
  if x3 = (0 : Int32) then
    let v5 : Int64 := ((s4_rb u 4 r1) &&& (r2 ^^^ (-1 : Int64)))
    let u7 : S4 := s4_wb u 4 r1 v5
    u7
  else
    let u10 : S4 := s4_wb u 4 r1 ((s4_rb u 4 r1) ||| r2)
    u10
def xq_Streets_setClosed (u : S4) (x1 : Int32) (x2 : Int32) (x3 : Int32) : Prop :=
  let r1 : Int32 := xp_Streets_wordOf u x1 x2
  let r2 : Int64 := xp_Streets_bitOf u x2
  ((x3 = (0 : Int32) →
    vp_in r1 72 ∧
    let v5 : Int64 := ((s4_rb u 4 r1) &&& (r2 ^^^ (-1 : Int64)))
    vp_in r1 72) ∧ (¬ x3 = (0 : Int32) →
    vp_in r1 72 ∧
    vp_in r1 72))
set_option maxHeartbeats 4000000 in
set_option maxRecDepth 100000 in
theorem xc_Streets_setClosed (l : Launch) (D : va_G) (a : Nat → Nat) (k3 : K3) (u : S4) (x1 : Int32) (x2 : Int32) (x3 : Int32) (hq : xq_Streets_setClosed u x1 x2 x3) : MV l D vwCl (ty3 k3) nestW (xC a k3) yX5_setClosed (kX5_setClosed :: tbG) rm_xStreets_setClosed [.ref (a 3), .int x1, .int x2, .int x3] u (xp_Streets_setClosed u x1 x2 x3) := by
  refine mkV (cc := cX5_setClosed) (maxL := 7) (ret := none) (by decide) rfl (Nat.le_of_ble_eq_true rfl) ?_
  intro p e s m below meth c A ls F hw hl
  generalize hav : ([.ref (a 3), .int x1, .int x2, .int x3] : List Value).toArray = av at F ⊢
  have hl : lv_has ls 7 [(0, .ref (a 3)), (1, .int x1), (2, .int x2), (3, .int x3)] := hl
  obtain ⟨hx, hb, hr, hml, hown, hts, hK, hN, hlocks, hA⟩ := id F
  have hown : s.vm.findClass RX5 = some m.cls := hown
  have htG : ∀ w ∈ tbG, w.before av s = true := fun w h => hts w (List.mem_cons_of_mem _ h)
  have f_34 := htG _ tb_78
  have k_60 := htG _ tb_285
  have hgo : ∀ P, xp_Streets_setClosed u x1 x2 x3 = P → ∀ (H : Heap) (locs : List Loc), wd D vwCl (xC a k3) A s.heap u H locs → W p l e rm_xStreets_setClosed s m av below meth c H locs 0 0 (QV below D vwCl (xC a k3) A av s P) (F0 m 0 ls []) := by
    intro P hP H locs hw
    refine lv_iload_n hx hb dX5_setClosed_0 rfl (lv_at hl 1 rfl) ?_
    refine lv_iload_n hx hb dX5_setClosed_1 rfl (lv_at hl 2 rfl) ?_
    let r1 : Int32 := xp_Streets_wordOf u x1 x2
    refine call_sir (rest := []) ⟨hx, hb, hml, hown, htG⟩ nestW_ok hK hN hA (xc_Streets_wordOf l D a k3 u x1 x2) (cwS 2 htG (tb_S tb_279 tb_280 tb_23 tb_281) rfl rfl rfl (by decide +kernel) ⟨Nat.le_of_ble_eq_true rfl, Nat.le_of_ble_eq_true rfl⟩) hw rfl hl.1 rfl (Nat.le_of_ble_eq_true rfl) dX5_setClosed_2 ⟨Nat.zero_le _, Nat.zero_le _⟩ (fun H locs (hw : wd D vwCl (xC a k3) A s.heap u H locs) => ?_)
    refine lv_istore (lv' := [(4, .int r1), (0, .ref (a 3)), (1, .int x1), (2, .int x2), (3, .int x3)]) hx hb dX5_setClosed_5 hl (by decide) rfl (fun ls hl => ?_)
    refine lv_iload_n hx hb dX5_setClosed_7 rfl (lv_at hl 3 rfl) ?_
    let r2 : Int64 := xp_Streets_bitOf u x2
    refine call_slr (rest := []) ⟨hx, hb, hml, hown, htG⟩ nestW_ok hK hN hA (xc_Streets_bitOf l D a k3 u x2) (cwS 1 htG (tb_S tb_282 tb_283 tb_23 tb_284) rfl rfl rfl (by decide +kernel) ⟨Nat.le_of_ble_eq_true rfl, Nat.le_of_ble_eq_true rfl⟩) hw rfl hl.1 rfl (Nat.le_of_ble_eq_true rfl) dX5_setClosed_8 ⟨Nat.zero_le _, Nat.zero_le _⟩ (fun H locs (hw : wd D vwCl (xC a k3) A s.heap u H locs) => ?_)
    refine lv_lstore (lv' := [(5, .long r2), (4, .int r1), (0, .ref (a 3)), (1, .int x1), (2, .int x2), (3, .int x3)]) hx hb dX5_setClosed_11 hl (by decide) rfl (fun ls hl => ?_)
    refine lv_aload_n hx hb dX5_setClosed_13 rfl (lv_at hl 2 rfl) ?_
    refine va_get (D := D) (ci := 5) (v := .ref (a 20)) (C := RX5) (T := TX5) (N := 9) hx hb htG in_5 hown hK hw.1 3 (xo_3 a k3 u) rfl 7 (by decide) f_34 (fun _ h9 => h9) rfl dX5_setClosed_14 ?_
    refine lv_iload hx hb dX5_setClosed_17 (lv_at hl 1 rfl) ?_
    refine lv_iload_n hx hb dX5_setClosed_19 rfl (lv_at hl 5 rfl) ?_
    refine lv_if_eq (tgt := 36) hx hb dX5_setClosed_20 (by decide) (fun c3 => ?_) (fun c3 => ?_)
    · have hP := (if_pos c3).symm.trans hP
      have hq := hq.1 c3
      refine lv_aload_n hx hb dX5_setClosed_36 rfl (lv_at hl 2 rfl) ?_
      refine va_get (D := D) (ci := 5) (v := .ref (a 20)) (C := RX5) (T := TX5) (N := 9) hx hb htG in_5 hown hK hw.1 3 (xo_3 a k3 u) rfl 7 (by decide) f_34 (fun _ h9 => h9) rfl dX5_setClosed_37 ?_
      refine lv_iload hx hb dX5_setClosed_40 (lv_at hl 1 rfl) ?_
      obtain ⟨h4, hq⟩ := hq
      refine y_lald (t0 := 1) hx hb hK hw 4 (xo_20 a k3 u) rfl h4 dX5_setClosed_42 ?_
      refine lv_lload hx hb dX5_setClosed_43 (lv_at hl 0 rfl) ?_
      refine lv_ldc2 (v := -1) hx hb hown k_60 dX5_setClosed_45 ?_
      refine lv_lxor hx hb dX5_setClosed_48 ?_
      refine lv_land hx hb dX5_setClosed_49 ?_
      let v5 : Int64 := ((s4_rb u 4 r1) &&& (r2 ^^^ (-1 : Int64)))
      have h6 := hq
      let u7 : S4 := s4_wb u 4 r1 v5
      refine y_last (t0 := 1) hx hb hK hw 4 (xo_20 a k3 u) (xq_20 a k3 u) rfl h6 dX5_setClosed_50 (fun H locs (hw : wd D vwCl (xC a k3) A s.heap u7 H locs) => ?_)
      exact ret_v hx hb hr hlocks hw dX5_setClosed_51 hP
    · have hP := (if_neg c3).symm.trans hP
      have hq := hq.2 c3
      refine lv_aload_n hx hb dX5_setClosed_23 rfl (lv_at hl 2 rfl) ?_
      refine va_get (D := D) (ci := 5) (v := .ref (a 20)) (C := RX5) (T := TX5) (N := 9) hx hb htG in_5 hown hK hw.1 3 (xo_3 a k3 u) rfl 7 (by decide) f_34 (fun _ h9 => h9) rfl dX5_setClosed_24 ?_
      refine lv_iload hx hb dX5_setClosed_27 (lv_at hl 1 rfl) ?_
      obtain ⟨h8, hq⟩ := hq
      refine y_lald (t0 := 1) hx hb hK hw 4 (xo_20 a k3 u) rfl h8 dX5_setClosed_29 ?_
      refine lv_lload hx hb dX5_setClosed_30 (lv_at hl 0 rfl) ?_
      refine lv_lor hx hb dX5_setClosed_32 ?_
      refine lv_goto (tgt := 50) hx hb dX5_setClosed_33 (by decide) ?_
      have h9 := hq
      let u10 : S4 := s4_wb u 4 r1 ((s4_rb u 4 r1) ||| r2)
      refine y_last (t0 := 1) hx hb hK hw 4 (xo_20 a k3 u) (xq_20 a k3 u) rfl h9 dX5_setClosed_50 (fun H locs (hw : wd D vwCl (xC a k3) A s.heap u10 H locs) => ?_)
      exact ret_v hx hb hr hlocks hw dX5_setClosed_51 hP
  exact hgo _ rfl s.heap [] hw
theorem dX7_close_0 : decode cX7_close 0 = .ok (.aload_n 0, 1) := by decide +kernel
theorem dX7_close_1 : decode cX7_close 1 = .ok (.getfield 12, 3) := by decide +kernel
theorem dX7_close_4 : decode cX7_close 4 = .ok (.getfield 55, 3) := by decide +kernel
theorem dX7_close_7 : decode cX7_close 7 = .ok (.iload_n 1, 1) := by decide +kernel
theorem dX7_close_8 : decode cX7_close 8 = .ok (.invokevirtual 64, 3) := by decide +kernel
theorem dX7_close_11 : decode cX7_close 11 = .ok (.ifCond .eq 14, 3) := by decide +kernel
theorem dX7_close_14 : decode cX7_close 14 = .ok (.iload_n 2, 1) := by decide +kernel
theorem dX7_close_15 : decode cX7_close 15 = .ok (.ifCond .lt 10, 3) := by decide +kernel
theorem dX7_close_18 : decode cX7_close 18 = .ok (.iload_n 2, 1) := by decide +kernel
theorem dX7_close_19 : decode cX7_close 19 = .ok (.sipush 366, 3) := by decide +kernel
theorem dX7_close_22 : decode cX7_close 22 = .ok (.if_icmp .lt 5, 3) := by decide +kernel
theorem dX7_close_25 : decode cX7_close 25 = .ok (.iconst 0, 1) := by decide +kernel
theorem dX7_close_26 : decode cX7_close 26 = .ok (.ireturn, 1) := by decide +kernel
theorem dX7_close_27 : decode cX7_close 27 = .ok (.aload_n 0, 1) := by decide +kernel
theorem dX7_close_28 : decode cX7_close 28 = .ok (.getfield 12, 3) := by decide +kernel
theorem dX7_close_31 : decode cX7_close 31 = .ok (.getfield 55, 3) := by decide +kernel
theorem dX7_close_34 : decode cX7_close 34 = .ok (.iload_n 1, 1) := by decide +kernel
theorem dX7_close_35 : decode cX7_close 35 = .ok (.iload_n 2, 1) := by decide +kernel
theorem dX7_close_36 : decode cX7_close 36 = .ok (.iload_n 3, 1) := by decide +kernel
theorem dX7_close_37 : decode cX7_close 37 = .ok (.invokevirtual 94, 3) := by decide +kernel
theorem dX7_close_40 : decode cX7_close 40 = .ok (.iconst 1, 1) := by decide +kernel
theorem dX7_close_41 : decode cX7_close 41 = .ok (.ireturn, 1) := by decide +kernel
abbrev rm_xO_close : Room := { frames := 2, cells := 0, slots := 0, locals := 47 }
def xp_O_close (u : S4) (x1 : Int32) (x2 : Int32) (x3 : Int32) : Int32 × S4 :=
  let r1 : Int32 := xp_Streets_has u x1
  if r1 = (0 : Int32) then
    ((0 : Int32), u)
  else
    if x2 < (0 : Int32) then
      ((0 : Int32), u)
    else
      if x2 < (366 : Int32) then
        let u6 : S4 := xp_Streets_setClosed u x1 x2 x3
        ((1 : Int32), u6)
      else
        ((0 : Int32), u)
def xq_O_close (u : S4) (x1 : Int32) (x2 : Int32) (x3 : Int32) : Prop :=
  let r1 : Int32 := xp_Streets_has u x1
  (¬ r1 = (0 : Int32) →
    (¬ x2 < (0 : Int32) →
      (x2 < (366 : Int32) →
        xq_Streets_setClosed u x1 x2 x3)))
set_option maxHeartbeats 4000000 in
set_option maxRecDepth 100000 in
theorem xc_O_close (l : Launch) (D : va_G) (a : Nat → Nat) (k3 : K3) (u : S4) (x1 : Int32) (x2 : Int32) (x3 : Int32) (hq : xq_O_close u x1 x2 x3) : MI l D vwCl (ty3 k3) nestW (xC a k3) yX7_close (kX7_close :: tbG) rm_xO_close [.ref (a 0), .int x1, .int x2, .int x3] u (xp_O_close u x1 x2 x3) := by
  refine mkI (cc := cX7_close) (maxL := 4) (ret := (some .boolean)) (by decide) rfl (Nat.le_of_ble_eq_true rfl) ?_
  intro p e s m below meth c A ls F hw hl
  generalize hav : ([.ref (a 0), .int x1, .int x2, .int x3] : List Value).toArray = av at F ⊢
  have hl : lv_has ls 4 [(0, .ref (a 0)), (1, .int x1), (2, .int x2), (3, .int x3)] := hl
  obtain ⟨hx, hb, hr, hml, hown, hts, hK, hN, hlocks, hA⟩ := id F
  have hown : s.vm.findClass RX7 = some m.cls := hown
  have htG : ∀ w ∈ tbG, w.before av s = true := fun w h => hts w (List.mem_cons_of_mem _ h)
  have f_12 := htG _ tb_188
  have f_55 := va_Nw.use (A := av) rfl (hN _ nw_6)
  have hgo : ∀ P, xp_O_close u x1 x2 x3 = P → ∀ (H : Heap) (locs : List Loc), wd D vwCl (xC a k3) A s.heap u H locs → W p l e rm_xO_close s m av below meth c H locs 0 0 (QI below D vwCl (xC a k3) A av s P) (F0 m 0 ls []) := by
    intro P hP H locs hw
    refine lv_aload_n hx hb dX7_close_0 rfl (lv_at hl 0 rfl) ?_
    refine va_get (D := D) (ci := 7) (v := .ref (a 1)) (C := RX7) (T := TX7) (N := 4) hx hb htG in_7 hown hK hw.1 0 (xo_0 a k3 u) rfl 0 (by decide) f_12 (fun _ h9 => h9) rfl dX7_close_1 ?_
    refine va_getN (D := D) (ci := 2) (v := .ref (a 3)) (C := RX2) (T := TX2) (N := 5) hx hb htG in_2 hown hK hw.1 1 (xo_1 a k3 u) rfl 1 (by decide) f_55 (fun _ h9 => h9) rfl dX7_close_4 ?_
    refine lv_iload_n hx hb dX7_close_7 rfl (lv_at hl 1 rfl) ?_
    let r1 : Int32 := xp_Streets_has u x1
    refine call_vir (rest := []) ⟨hx, hb, hml, hown, htG⟩ nestW_ok hK hN hA (xc_Streets_has l D a k3 u x1) (cwV 1 htG (tb_V tb_240 tb_241 tb_242 tb_23 tb_243) rfl rfl rfl (by decide +kernel) ⟨Nat.le_of_ble_eq_true rfl, Nat.le_of_ble_eq_true rfl⟩) (ci := 5) rfl (xo_3 a k3 u) rfl hw rfl hl.1 rfl (Nat.le_of_ble_eq_true rfl) dX7_close_8 ⟨Nat.zero_le _, Nat.zero_le _⟩ (fun H locs (hw : wd D vwCl (xC a k3) A s.heap u H locs) => ?_)
    refine lv_if_eq (tgt := 25) hx hb dX7_close_11 (by decide) (fun c2 => ?_) (fun c2 => ?_)
    · have hP := (if_pos c2).symm.trans hP
      refine lv_iconst (v := 0) hx hb dX7_close_25 (by decide) ?_
      exact ret_z hx hb hr hlocks hw rfl dX7_close_26 hP
    · have hP := (if_neg c2).symm.trans hP
      have hq := hq c2
      refine lv_iload_n hx hb dX7_close_14 rfl (lv_at hl 2 rfl) ?_
      refine lv_if_lt (tgt := 25) hx hb dX7_close_15 (by decide) (fun c3 => ?_) (fun c3 => ?_)
      · have hP := (if_pos c3).symm.trans hP
        refine lv_iconst (v := 0) hx hb dX7_close_25 (by decide) ?_
        exact ret_z hx hb hr hlocks hw rfl dX7_close_26 hP
      · have hP := (if_neg c3).symm.trans hP
        have hq := hq c3
        refine lv_iload_n hx hb dX7_close_18 rfl (lv_at hl 2 rfl) ?_
        refine lv_sipush (v := 366) hx hb dX7_close_19 (by decide) ?_
        refine lv_icmp_lt (tgt := 27) hx hb dX7_close_22 (by decide) (fun c4 => ?_) (fun c4 => ?_)
        · have hP := (if_pos c4).symm.trans hP
          have hq := hq c4
          refine lv_aload_n hx hb dX7_close_27 rfl (lv_at hl 0 rfl) ?_
          refine va_get (D := D) (ci := 7) (v := .ref (a 1)) (C := RX7) (T := TX7) (N := 4) hx hb htG in_7 hown hK hw.1 0 (xo_0 a k3 u) rfl 0 (by decide) f_12 (fun _ h9 => h9) rfl dX7_close_28 ?_
          refine va_getN (D := D) (ci := 2) (v := .ref (a 3)) (C := RX2) (T := TX2) (N := 5) hx hb htG in_2 hown hK hw.1 1 (xo_1 a k3 u) rfl 1 (by decide) f_55 (fun _ h9 => h9) rfl dX7_close_31 ?_
          refine lv_iload_n hx hb dX7_close_34 rfl (lv_at hl 1 rfl) ?_
          refine lv_iload_n hx hb dX7_close_35 rfl (lv_at hl 2 rfl) ?_
          refine lv_iload_n hx hb dX7_close_36 rfl (lv_at hl 3 rfl) ?_
          have h5 := hq
          let u6 : S4 := xp_Streets_setClosed u x1 x2 x3
          refine call_vv (rest := []) ⟨hx, hb, hml, hown, htG⟩ nestW_ok hK hN hA (xc_Streets_setClosed l D a k3 u x1 x2 x3 h5) (cwV 3 htG (tb_V tb_275 tb_276 tb_277 tb_23 tb_278) rfl rfl rfl (by decide +kernel) ⟨Nat.le_of_ble_eq_true rfl, Nat.le_of_ble_eq_true rfl⟩) (ci := 5) rfl (xo_3 a k3 u) rfl hw rfl hl.1 rfl (Nat.le_of_ble_eq_true rfl) dX7_close_37 ⟨Nat.zero_le _, Nat.zero_le _⟩ (fun H locs (hw : wd D vwCl (xC a k3) A s.heap u6 H locs) => ?_)
          refine lv_iconst (v := 1) hx hb dX7_close_40 (by decide) ?_
          exact ret_z hx hb hr hlocks hw rfl dX7_close_41 hP
        · have hP := (if_neg c4).symm.trans hP
          refine lv_iconst (v := 0) hx hb dX7_close_25 (by decide) ?_
          exact ret_z hx hb hr hlocks hw rfl dX7_close_26 hP
  exact hgo _ rfl s.heap [] hw
theorem dX7_isSide_0 : decode cX7_isSide 0 = .ok (.aload_n 0, 1) := by decide +kernel
theorem dX7_isSide_1 : decode cX7_isSide 1 = .ok (.getfield 12, 3) := by decide +kernel
theorem dX7_isSide_4 : decode cX7_isSide 4 = .ok (.getfield 55, 3) := by decide +kernel
theorem dX7_isSide_7 : decode cX7_isSide 7 = .ok (.iload_n 1, 1) := by decide +kernel
theorem dX7_isSide_8 : decode cX7_isSide 8 = .ok (.invokevirtual 64, 3) := by decide +kernel
theorem dX7_isSide_11 : decode cX7_isSide 11 = .ok (.ifCond .eq 16, 3) := by decide +kernel
theorem dX7_isSide_14 : decode cX7_isSide 14 = .ok (.iload_n 2, 1) := by decide +kernel
theorem dX7_isSide_15 : decode cX7_isSide 15 = .ok (.ifCond .eq 8, 3) := by decide +kernel
theorem dX7_isSide_18 : decode cX7_isSide 18 = .ok (.iload_n 2, 1) := by decide +kernel
theorem dX7_isSide_19 : decode cX7_isSide 19 = .ok (.iconst 1, 1) := by decide +kernel
theorem dX7_isSide_20 : decode cX7_isSide 20 = .ok (.if_icmp .ne 7, 3) := by decide +kernel
theorem dX7_isSide_23 : decode cX7_isSide 23 = .ok (.iconst 1, 1) := by decide +kernel
theorem dX7_isSide_24 : decode cX7_isSide 24 = .ok (.goto 4, 3) := by decide +kernel
theorem dX7_isSide_27 : decode cX7_isSide 27 = .ok (.iconst 0, 1) := by decide +kernel
theorem dX7_isSide_28 : decode cX7_isSide 28 = .ok (.ireturn, 1) := by decide +kernel
abbrev rm_xO_isSide : Room := { frames := 1, cells := 0, slots := 0, locals := 21 }
def xp_O_isSide (u : S4) (x1 : Int32) (x2 : Int32) : Int32 :=
  let r1 : Int32 := xp_Streets_has u x1
  if r1 = (0 : Int32) then
    (0 : Int32)
  else
    if x2 = (0 : Int32) then
      (1 : Int32)
    else
      if x2 = (1 : Int32) then
        (1 : Int32)
      else
        (0 : Int32)
set_option maxHeartbeats 4000000 in
set_option maxRecDepth 100000 in
theorem xc_O_isSide (l : Launch) (D : va_G) (a : Nat → Nat) (k3 : K3) (u : S4) (x1 : Int32) (x2 : Int32) : MI l D vwCl (ty3 k3) nestW (xC a k3) yX7_isSide (kX7_isSide :: tbG) rm_xO_isSide [.ref (a 0), .int x1, .int x2] u (xp_O_isSide u x1 x2, u) := by
  refine mkI (cc := cX7_isSide) (maxL := 3) (ret := (some .boolean)) (by decide) rfl (Nat.le_of_ble_eq_true rfl) ?_
  intro p e s m below meth c A ls F hw hl
  generalize hav : ([.ref (a 0), .int x1, .int x2] : List Value).toArray = av at F ⊢
  have hl : lv_has ls 3 [(0, .ref (a 0)), (1, .int x1), (2, .int x2)] := hl
  obtain ⟨hx, hb, hr, hml, hown, hts, hK, hN, hlocks, hA⟩ := id F
  have hown : s.vm.findClass RX7 = some m.cls := hown
  have htG : ∀ w ∈ tbG, w.before av s = true := fun w h => hts w (List.mem_cons_of_mem _ h)
  have f_12 := htG _ tb_188
  have f_55 := va_Nw.use (A := av) rfl (hN _ nw_6)
  have hgo : ∀ P, xp_O_isSide u x1 x2 = P → ∀ (H : Heap) (locs : List Loc), wd D vwCl (xC a k3) A s.heap u H locs → W p l e rm_xO_isSide s m av below meth c H locs 0 0 (QI below D vwCl (xC a k3) A av s (P, u)) (F0 m 0 ls []) := by
    intro P hP H locs hw
    refine lv_aload_n hx hb dX7_isSide_0 rfl (lv_at hl 0 rfl) ?_
    refine va_get (D := D) (ci := 7) (v := .ref (a 1)) (C := RX7) (T := TX7) (N := 4) hx hb htG in_7 hown hK hw.1 0 (xo_0 a k3 u) rfl 0 (by decide) f_12 (fun _ h9 => h9) rfl dX7_isSide_1 ?_
    refine va_getN (D := D) (ci := 2) (v := .ref (a 3)) (C := RX2) (T := TX2) (N := 5) hx hb htG in_2 hown hK hw.1 1 (xo_1 a k3 u) rfl 1 (by decide) f_55 (fun _ h9 => h9) rfl dX7_isSide_4 ?_
    refine lv_iload_n hx hb dX7_isSide_7 rfl (lv_at hl 1 rfl) ?_
    let r1 : Int32 := xp_Streets_has u x1
    refine call_vir (rest := []) ⟨hx, hb, hml, hown, htG⟩ nestW_ok hK hN hA (xc_Streets_has l D a k3 u x1) (cwV 1 htG (tb_V tb_240 tb_241 tb_242 tb_23 tb_243) rfl rfl rfl (by decide +kernel) ⟨Nat.le_of_ble_eq_true rfl, Nat.le_of_ble_eq_true rfl⟩) (ci := 5) rfl (xo_3 a k3 u) rfl hw rfl hl.1 rfl (Nat.le_of_ble_eq_true rfl) dX7_isSide_8 ⟨Nat.zero_le _, Nat.zero_le _⟩ (fun H locs (hw : wd D vwCl (xC a k3) A s.heap u H locs) => ?_)
    refine lv_if_eq (tgt := 27) hx hb dX7_isSide_11 (by decide) (fun c2 => ?_) (fun c2 => ?_)
    · have hP := (if_pos c2).symm.trans hP
      refine lv_iconst (v := 0) hx hb dX7_isSide_27 (by decide) ?_
      exact ret_z hx hb hr hlocks hw rfl dX7_isSide_28 (congrArg (fun z => (z, u)) hP)
    · have hP := (if_neg c2).symm.trans hP
      refine lv_iload_n hx hb dX7_isSide_14 rfl (lv_at hl 2 rfl) ?_
      refine lv_if_eq (tgt := 23) hx hb dX7_isSide_15 (by decide) (fun c3 => ?_) (fun c3 => ?_)
      · have hP := (if_pos c3).symm.trans hP
        refine lv_iconst (v := 1) hx hb dX7_isSide_23 (by decide) ?_
        refine lv_goto (tgt := 28) hx hb dX7_isSide_24 (by decide) ?_
        exact ret_z hx hb hr hlocks hw rfl dX7_isSide_28 (congrArg (fun z => (z, u)) hP)
      · have hP := (if_neg c3).symm.trans hP
        refine lv_iload_n hx hb dX7_isSide_18 rfl (lv_at hl 2 rfl) ?_
        refine lv_iconst (v := 1) hx hb dX7_isSide_19 (by decide) ?_
        refine lv_icmp_ne (tgt := 27) hx hb dX7_isSide_20 (by decide) (fun c4 => ?_) (fun c4 => ?_)
        · have hP := (if_neg c4).symm.trans hP
          refine lv_iconst (v := 0) hx hb dX7_isSide_27 (by decide) ?_
          exact ret_z hx hb hr hlocks hw rfl dX7_isSide_28 (congrArg (fun z => (z, u)) hP)
        · have hP := (if_pos c4).symm.trans hP
          refine lv_iconst (v := 1) hx hb dX7_isSide_23 (by decide) ?_
          refine lv_goto (tgt := 28) hx hb dX7_isSide_24 (by decide) ?_
          exact ret_z hx hb hr hlocks hw rfl dX7_isSide_28 (congrArg (fun z => (z, u)) hP)
  exact hgo _ rfl s.heap [] hw
theorem dX7_numberOf_0 : decode cX7_numberOf 0 = .ok (.iconst 2, 1) := by decide +kernel
theorem dX7_numberOf_1 : decode cX7_numberOf 1 = .ok (.iload_n 0, 1) := by decide +kernel
theorem dX7_numberOf_2 : decode cX7_numberOf 2 = .ok (.imul, 1) := by decide +kernel
theorem dX7_numberOf_3 : decode cX7_numberOf 3 = .ok (.iload_n 1, 1) := by decide +kernel
theorem dX7_numberOf_4 : decode cX7_numberOf 4 = .ok (.iadd, 1) := by decide +kernel
theorem dX7_numberOf_5 : decode cX7_numberOf 5 = .ok (.ireturn, 1) := by decide +kernel
abbrev rm_xO_numberOf : Room := { frames := 0, cells := 0, slots := 0, locals := 0 }
def xp_O_numberOf (u : S4) (x0 : Int32) (x1 : Int32) : Int32 :=
  (((2 : Int32) * x0) + x1)
set_option maxHeartbeats 4000000 in
set_option maxRecDepth 100000 in
theorem xc_O_numberOf (l : Launch) (D : va_G) (a : Nat → Nat) (k3 : K3) (u : S4) (x0 : Int32) (x1 : Int32) : MI l D vwCl (ty3 k3) nestW (xC a k3) yX7_numberOf (kX7_numberOf :: tbG) rm_xO_numberOf [.int x0, .int x1] u (xp_O_numberOf u x0 x1, u) := by
  refine mkI (cc := cX7_numberOf) (maxL := 2) (ret := (some .int)) (by decide) rfl (Nat.le_of_ble_eq_true rfl) ?_
  intro p e s m below meth c A ls F hw hl
  generalize hav : ([.int x0, .int x1] : List Value).toArray = av at F ⊢
  have hl : lv_has ls 2 [(0, .int x0), (1, .int x1)] := hl
  obtain ⟨hx, hb, hr, hml, hown, hts, hK, hN, hlocks, hA⟩ := id F
  have hown : s.vm.findClass RX7 = some m.cls := hown
  have htG : ∀ w ∈ tbG, w.before av s = true := fun w h => hts w (List.mem_cons_of_mem _ h)
  have hgo : ∀ P, xp_O_numberOf u x0 x1 = P → ∀ (H : Heap) (locs : List Loc), wd D vwCl (xC a k3) A s.heap u H locs → W p l e rm_xO_numberOf s m av below meth c H locs 0 0 (QI below D vwCl (xC a k3) A av s (P, u)) (F0 m 0 ls []) := by
    intro P hP H locs hw
    refine lv_iconst (v := 2) hx hb dX7_numberOf_0 (by decide) ?_
    refine lv_iload_n hx hb dX7_numberOf_1 rfl (lv_at hl 0 rfl) ?_
    refine lv_imul hx hb dX7_numberOf_2 ?_
    refine lv_iload_n hx hb dX7_numberOf_3 rfl (lv_at hl 1 rfl) ?_
    refine lv_iadd hx hb dX7_numberOf_4 ?_
    exact ret_i hx hb hr hlocks hw dX7_numberOf_5 (congrArg (fun z => (z, u)) hP)
  exact hgo _ rfl s.heap [] hw
theorem dX0_forget_0 : decode cX0_forget 0 = .ok (.aload_n 0, 1) := by decide +kernel
theorem dX0_forget_1 : decode cX0_forget 1 = .ok (.iconst 0, 1) := by decide +kernel
theorem dX0_forget_2 : decode cX0_forget 2 = .ok (.putfield 18, 3) := by decide +kernel
theorem dX0_forget_5 : decode cX0_forget 5 = .ok (.return_, 1) := by decide +kernel
abbrev rm_xHeldWay_forget : Room := { frames := 0, cells := 0, slots := 0, locals := 0 }
def xp_HeldWay_forget (u : S4) : S4 :=
  let u1 : S4 := s4_si u 3 (0 : Int32)
  u1
set_option maxHeartbeats 4000000 in
set_option maxRecDepth 100000 in
theorem xc_HeldWay_forget (l : Launch) (D : va_G) (a : Nat → Nat) (k3 : K3) (u : S4) : MV l D vwCl (ty3 k3) nestW (xC a k3) yX0_forget (kX0_forget :: tbG) rm_xHeldWay_forget [.ref (a 6)] u (xp_HeldWay_forget u) := by
  refine mkV (cc := cX0_forget) (maxL := 1) (ret := none) (by decide) rfl (Nat.le_of_ble_eq_true rfl) ?_
  intro p e s m below meth c A ls F hw hl
  generalize hav : ([.ref (a 6)] : List Value).toArray = av at F ⊢
  have hl : lv_has ls 1 [(0, .ref (a 6))] := hl
  obtain ⟨hx, hb, hr, hml, hown, hts, hK, hN, hlocks, hA⟩ := id F
  have hown : s.vm.findClass RX0 = some m.cls := hown
  have htG : ∀ w ∈ tbG, w.before av s = true := fun w h => hts w (List.mem_cons_of_mem _ h)
  have f_18 := htG _ tb_167
  have hgo : ∀ P, xp_HeldWay_forget u = P → ∀ (H : Heap) (locs : List Loc), wd D vwCl (xC a k3) A s.heap u H locs → W p l e rm_xHeldWay_forget s m av below meth c H locs 0 0 (QV below D vwCl (xC a k3) A av s P) (F0 m 0 ls []) := by
    intro P hP H locs hw
    refine lv_aload_n hx hb dX0_forget_0 rfl (lv_at hl 0 rfl) ?_
    refine lv_iconst (v := 0) hx hb dX0_forget_1 (by decide) ?_
    let u1 : S4 := s4_si u 3 (0 : Int32)
    refine y_puti hx hb htG in_0 tyX0 tyX0_ok nX0 hown hK hw 3 (xo_6 a k3 u) rfl 2 (by decide) f_18 (fun _ h9 => h9) rfl (by decide +kernel) (Nat.le_of_ble_eq_true rfl) (xt_i3 a k3 u (0 : Int32)) dX0_forget_2 (fun H locs (hw : wd D vwCl (xC a k3) A s.heap u1 H locs) => ?_)
    exact ret_v hx hb hr hlocks hw dX0_forget_5 hP
  exact hgo _ rfl s.heap [] hw
theorem dX4_forget_0 : decode cX4_forget 0 = .ok (.iconst 0, 1) := by decide +kernel
theorem dX4_forget_1 : decode cX4_forget 1 = .ok (.istore_n 1, 1) := by decide +kernel
theorem dX4_forget_2 : decode cX4_forget 2 = .ok (.iload_n 1, 1) := by decide +kernel
theorem dX4_forget_3 : decode cX4_forget 3 = .ok (.bipush 24, 2) := by decide +kernel
theorem dX4_forget_5 : decode cX4_forget 5 = .ok (.if_icmp .ge 31, 3) := by decide +kernel
theorem dX4_forget_8 : decode cX4_forget 8 = .ok (.aload_n 0, 1) := by decide +kernel
theorem dX4_forget_9 : decode cX4_forget 9 = .ok (.getfield 9, 3) := by decide +kernel
theorem dX4_forget_12 : decode cX4_forget 12 = .ok (.iload_n 1, 1) := by decide +kernel
theorem dX4_forget_13 : decode cX4_forget 13 = .ok (.ldc 55, 2) := by decide +kernel
theorem dX4_forget_15 : decode cX4_forget 15 = .ok (.iastore, 1) := by decide +kernel
theorem dX4_forget_16 : decode cX4_forget 16 = .ok (.aload_n 0, 1) := by decide +kernel
theorem dX4_forget_17 : decode cX4_forget 17 = .ok (.getfield 15, 3) := by decide +kernel
theorem dX4_forget_20 : decode cX4_forget 20 = .ok (.iload_n 1, 1) := by decide +kernel
theorem dX4_forget_21 : decode cX4_forget 21 = .ok (.iconst 0, 1) := by decide +kernel
theorem dX4_forget_22 : decode cX4_forget 22 = .ok (.bastore, 1) := by decide +kernel
theorem dX4_forget_23 : decode cX4_forget 23 = .ok (.aload_n 0, 1) := by decide +kernel
theorem dX4_forget_24 : decode cX4_forget 24 = .ok (.getfield 19, 3) := by decide +kernel
theorem dX4_forget_27 : decode cX4_forget 27 = .ok (.iload_n 1, 1) := by decide +kernel
theorem dX4_forget_28 : decode cX4_forget 28 = .ok (.iconst 0, 1) := by decide +kernel
theorem dX4_forget_29 : decode cX4_forget 29 = .ok (.bastore, 1) := by decide +kernel
theorem dX4_forget_30 : decode cX4_forget 30 = .ok (.iinc 1 1, 3) := by decide +kernel
theorem dX4_forget_33 : decode cX4_forget 33 = .ok (.goto (-31), 3) := by decide +kernel
theorem dX4_forget_36 : decode cX4_forget 36 = .ok (.aload_n 0, 1) := by decide +kernel
theorem dX4_forget_37 : decode cX4_forget 37 = .ok (.iconst 0, 1) := by decide +kernel
theorem dX4_forget_38 : decode cX4_forget 38 = .ok (.putfield 28, 3) := by decide +kernel
theorem dX4_forget_41 : decode cX4_forget 41 = .ok (.return_, 1) := by decide +kernel
abbrev rm_xSearch_forget : Room := { frames := 0, cells := 0, slots := 0, locals := 0 }
def xB_Search_forget_2 (K2 : S4 → Int32 → S4) (u : S4) (y1 : Int32) : S4 :=
  if (24 : Int32) ≤ y1 then
    let u2 : S4 := s4_si u 2 (0 : Int32)
    u2
  else
    let u4 : S4 := s4_wa u 10 y1 (63244800 : Int32)
    let u6 : S4 := s4_wz u4 11 y1 (0 : Int32)
    let u8 : S4 := s4_wz u6 12 y1 (0 : Int32)
    let v9 : Int32 := (y1 + (1 : Int32))
    K2 u8 v9
def xL_Search_forget_2 : Nat → S4 → Int32 → S4
  | 0 => fun u _ => u
  | n + 1 => xB_Search_forget_2 (xL_Search_forget_2 n)
def xBq_Search_forget_2 (Q2 : S4 → Int32 → Prop) (u : S4) (y1 : Int32) : Prop :=
  (¬ (24 : Int32) ≤ y1 →
    vp_in y1 24 ∧
    let u4 : S4 := s4_wa u 10 y1 (63244800 : Int32)
    vp_in y1 24 ∧
    let u6 : S4 := s4_wz u4 11 y1 (0 : Int32)
    vp_in y1 24 ∧
    let u8 : S4 := s4_wz u6 12 y1 (0 : Int32)
    let v9 : Int32 := (y1 + (1 : Int32))
    Q2 u8 v9)
def xLq_Search_forget_2 : Nat → S4 → Int32 → Prop
  | 0 => fun _ _ => False
  | n + 1 => xBq_Search_forget_2 (xLq_Search_forget_2 n)
set_option maxHeartbeats 4000000 in
set_option maxRecDepth 100000 in
theorem xs_Search_forget_2 (l : Launch) (D : va_G) (a : Nat → Nat) (k3 : K3) {p : Program} {e : Env} {s : State} {m : MethodId} {below : List Frame} {meth : Method} {c : Code} {A : Nat → Prop} (av : Array Value) (F : Fx p s m meth c av cX4_forget 2 none yX4_forget.cls (kX4_forget :: tbG) D vwCl (ty3 k3) nestW A) (P : S4) (K2 : S4 → Int32 → S4) (Q2 : S4 → Int32 → Prop) (hK2 : ∀ (u : S4) (y1 : Int32) (H : Heap) (locs : List Loc) (ls : Array Slot), Q2 u y1 → K2 u y1 = P → wd D vwCl (xC a k3) A s.heap u H locs → lv_has ls 2 [(0, .ref (a 5)), (1, .int y1)] → W p l e rm_xSearch_forget s m av below meth c H locs 0 0 (QV below D vwCl (xC a k3) A av s P) (F0 m 2 ls [])) : ∀ (u : S4) (y1 : Int32) (H : Heap) (locs : List Loc) (ls : Array Slot), xBq_Search_forget_2 Q2 u y1 → xB_Search_forget_2 K2 u y1 = P → wd D vwCl (xC a k3) A s.heap u H locs → lv_has ls 2 [(0, .ref (a 5)), (1, .int y1)] → W p l e rm_xSearch_forget s m av below meth c H locs 0 0 (QV below D vwCl (xC a k3) A av s P) (F0 m 2 ls []) := by
  obtain ⟨hx, hb, hr, hml, hown, hts, hK, hN, hlocks, hA⟩ := id F
  have hown : s.vm.findClass RX4 = some m.cls := hown
  have htG : ∀ w ∈ tbG, w.before av s = true := fun w h => hts w (List.mem_cons_of_mem _ h)
  have f_28 := htG _ tb_145
  have f_9 := htG _ tb_140
  have k_55 := htG _ tb_310
  have f_15 := htG _ tb_141
  have f_19 := htG _ tb_142
  intro u y1 H locs ls hq hP hw hl
  refine lv_iload_n hx hb dX4_forget_2 rfl (lv_at hl 1 rfl) ?_
  refine lv_bipush (v := 24) hx hb dX4_forget_3 (by decide) ?_
  refine lv_icmp_ge (tgt := 36) hx hb dX4_forget_5 (by decide) (fun c1 => ?_) (fun c1 => ?_)
  · have hP := (if_pos c1).symm.trans hP
    refine lv_aload_n hx hb dX4_forget_36 rfl (lv_at hl 0 rfl) ?_
    refine lv_iconst (v := 0) hx hb dX4_forget_37 (by decide) ?_
    let u2 : S4 := s4_si u 2 (0 : Int32)
    refine y_puti hx hb htG in_4 tyX4 tyX4_ok nX4 hown hK hw 2 (xo_5 a k3 u) rfl 5 (by decide) f_28 (fun _ h9 => h9) rfl (by decide +kernel) (Nat.le_of_ble_eq_true rfl) (xt_i2 a k3 u (0 : Int32)) dX4_forget_38 (fun H locs (hw : wd D vwCl (xC a k3) A s.heap u2 H locs) => ?_)
    exact ret_v hx hb hr hlocks hw dX4_forget_41 hP
  · have hP := (if_neg c1).symm.trans hP
    have hq := hq c1
    refine lv_aload_n hx hb dX4_forget_8 rfl (lv_at hl 0 rfl) ?_
    refine va_get (D := D) (ci := 4) (v := .ref (a 23)) (C := RX4) (T := TX4) (N := 6) hx hb htG in_4 hown hK hw.1 5 (xo_5 a k3 u) rfl 0 (by decide) f_9 (fun _ h9 => h9) rfl dX4_forget_9 ?_
    refine lv_iload_n hx hb dX4_forget_12 rfl (lv_at hl 1 rfl) ?_
    refine lv_ldc (v := 63244800) hx hb hown k_55 dX4_forget_13 ?_
    obtain ⟨h3, hq⟩ := hq
    let u4 : S4 := s4_wa u 10 y1 (63244800 : Int32)
    refine y_iast (t0 := 0) hx hb hK hw 10 (xo_23 a k3 u) (xq_23 a k3 u) rfl h3 dX4_forget_15 (fun H locs (hw : wd D vwCl (xC a k3) A s.heap u4 H locs) => ?_)
    refine lv_aload_n hx hb dX4_forget_16 rfl (lv_at hl 0 rfl) ?_
    refine va_get (D := D) (ci := 4) (v := .ref (a 24)) (C := RX4) (T := TX4) (N := 6) hx hb htG in_4 hown hK hw.1 5 (xo_5 a k3 u4) rfl 1 (by decide) f_15 (fun _ h9 => h9) rfl dX4_forget_17 ?_
    refine lv_iload_n hx hb dX4_forget_20 rfl (lv_at hl 1 rfl) ?_
    refine lv_iconst (v := 0) hx hb dX4_forget_21 (by decide) ?_
    obtain ⟨h5, hq⟩ := hq
    let u6 : S4 := s4_wz u4 11 y1 (0 : Int32)
    refine y_zast (t0 := 2) hx hb hK hw 11 (xo_24 a k3 u4) (xq_24 a k3 u4) rfl h5 dX4_forget_22 (fun H locs (hw : wd D vwCl (xC a k3) A s.heap u6 H locs) => ?_)
    refine lv_aload_n hx hb dX4_forget_23 rfl (lv_at hl 0 rfl) ?_
    refine va_get (D := D) (ci := 4) (v := .ref (a 25)) (C := RX4) (T := TX4) (N := 6) hx hb htG in_4 hown hK hw.1 5 (xo_5 a k3 u6) rfl 2 (by decide) f_19 (fun _ h9 => h9) rfl dX4_forget_24 ?_
    refine lv_iload_n hx hb dX4_forget_27 rfl (lv_at hl 1 rfl) ?_
    refine lv_iconst (v := 0) hx hb dX4_forget_28 (by decide) ?_
    obtain ⟨h7, hq⟩ := hq
    let u8 : S4 := s4_wz u6 12 y1 (0 : Int32)
    refine y_zast (t0 := 2) hx hb hK hw 12 (xo_25 a k3 u6) (xq_25 a k3 u6) rfl h7 dX4_forget_29 (fun H locs (hw : wd D vwCl (xC a k3) A s.heap u8 H locs) => ?_)
    let v9 : Int32 := (y1 + (1 : Int32))
    refine lv_iinc (v := v9) (lv' := [(1, .int v9), (0, .ref (a 5))]) hx hb dX4_forget_30 hl (k := 1) rfl rfl (by decide) rfl (fun ls hl => ?_)
    refine lv_goto (tgt := 2) hx hb dX4_forget_33 (by decide) ?_
    exact hK2 u8 (v9) H locs ls hq hP hw (lv_sub hl [1, 0] rfl)
set_option maxHeartbeats 4000000 in
set_option maxRecDepth 100000 in
theorem xw_Search_forget_2 (l : Launch) (D : va_G) (a : Nat → Nat) (k3 : K3) {p : Program} {e : Env} {s : State} {m : MethodId} {below : List Frame} {meth : Method} {c : Code} {A : Nat → Prop} (av : Array Value) (F : Fx p s m meth c av cX4_forget 2 none yX4_forget.cls (kX4_forget :: tbG) D vwCl (ty3 k3) nestW A) (P : S4) : ∀ (n : Nat), ∀ (u : S4) (y1 : Int32) (H : Heap) (locs : List Loc) (ls : Array Slot), xLq_Search_forget_2 n u y1 → xL_Search_forget_2 n u y1 = P → wd D vwCl (xC a k3) A s.heap u H locs → lv_has ls 2 [(0, .ref (a 5)), (1, .int y1)] → W p l e rm_xSearch_forget s m av below meth c H locs 0 0 (QV below D vwCl (xC a k3) A av s P) (F0 m 2 ls []) := by
  intro n
  induction n with
  | zero => intro u y1 H locs ls hq hP hw hl; exact hq.elim
  | succ n ih => intro u y1 H locs ls hq hP hw hl; exact xs_Search_forget_2 l D a k3 av F P (xL_Search_forget_2 n) (xLq_Search_forget_2 n) ih u y1 H locs ls hq hP hw hl
def xp_Search_forget (u : S4) : S4 :=
  xL_Search_forget_2 64 u (0 : Int32)
def xq_Search_forget (u : S4) : Prop :=
  xLq_Search_forget_2 64 u (0 : Int32)
set_option maxHeartbeats 4000000 in
set_option maxRecDepth 100000 in
theorem xc_Search_forget (l : Launch) (D : va_G) (a : Nat → Nat) (k3 : K3) (u : S4) (hq : xq_Search_forget u) : MV l D vwCl (ty3 k3) nestW (xC a k3) yX4_forget (kX4_forget :: tbG) rm_xSearch_forget [.ref (a 5)] u (xp_Search_forget u) := by
  refine mkV (cc := cX4_forget) (maxL := 2) (ret := none) (by decide) rfl (Nat.le_of_ble_eq_true rfl) ?_
  intro p e s m below meth c A ls F hw hl
  generalize hav : ([.ref (a 5)] : List Value).toArray = av at F ⊢
  have hl : lv_has ls 2 [(0, .ref (a 5))] := hl
  obtain ⟨hx, hb, hr, hml, hown, hts, hK, hN, hlocks, hA⟩ := id F
  have hown : s.vm.findClass RX4 = some m.cls := hown
  have htG : ∀ w ∈ tbG, w.before av s = true := fun w h => hts w (List.mem_cons_of_mem _ h)
  have hgo : ∀ P, xp_Search_forget u = P → ∀ (H : Heap) (locs : List Loc), wd D vwCl (xC a k3) A s.heap u H locs → W p l e rm_xSearch_forget s m av below meth c H locs 0 0 (QV below D vwCl (xC a k3) A av s P) (F0 m 0 ls []) := by
    intro P hP H locs hw
    refine lv_iconst (v := 0) hx hb dX4_forget_0 (by decide) ?_
    refine lv_istore_n (lv' := [(1, .int (0 : Int32)), (0, .ref (a 5))]) hx hb dX4_forget_1 rfl hl (by decide) rfl (fun ls hl => ?_)
    exact xw_Search_forget_2 l D a k3 av F P 64 u (0 : Int32) H locs ls hq hP hw (lv_sub hl [1, 0] rfl)
  exact hgo _ rfl s.heap [] hw
theorem dX5_sides_0 : decode cX5_sides 0 = .ok (.iconst 2, 1) := by decide +kernel
theorem dX5_sides_1 : decode cX5_sides 1 = .ok (.aload_n 0, 1) := by decide +kernel
theorem dX5_sides_2 : decode cX5_sides 2 = .ok (.getfield 37, 3) := by decide +kernel
theorem dX5_sides_5 : decode cX5_sides 5 = .ok (.imul, 1) := by decide +kernel
theorem dX5_sides_6 : decode cX5_sides 6 = .ok (.ireturn, 1) := by decide +kernel
abbrev rm_xStreets_sides : Room := { frames := 0, cells := 0, slots := 0, locals := 0 }
def xp_Streets_sides (u : S4) : Int32 :=
  ((2 : Int32) * (s4_i u 1))
set_option maxHeartbeats 4000000 in
set_option maxRecDepth 100000 in
theorem xc_Streets_sides (l : Launch) (D : va_G) (a : Nat → Nat) (k3 : K3) (u : S4) : MI l D vwCl (ty3 k3) nestW (xC a k3) yX5_sides (kX5_sides :: tbG) rm_xStreets_sides [.ref (a 3)] u (xp_Streets_sides u, u) := by
  refine mkI (cc := cX5_sides) (maxL := 1) (ret := (some .int)) (by decide) rfl (Nat.le_of_ble_eq_true rfl) ?_
  intro p e s m below meth c A ls F hw hl
  generalize hav : ([.ref (a 3)] : List Value).toArray = av at F ⊢
  have hl : lv_has ls 1 [(0, .ref (a 3))] := hl
  obtain ⟨hx, hb, hr, hml, hown, hts, hK, hN, hlocks, hA⟩ := id F
  have hown : s.vm.findClass RX5 = some m.cls := hown
  have htG : ∀ w ∈ tbG, w.before av s = true := fun w h => hts w (List.mem_cons_of_mem _ h)
  have f_37 := htG _ tb_79
  have hgo : ∀ P, xp_Streets_sides u = P → ∀ (H : Heap) (locs : List Loc), wd D vwCl (xC a k3) A s.heap u H locs → W p l e rm_xStreets_sides s m av below meth c H locs 0 0 (QI below D vwCl (xC a k3) A av s (P, u)) (F0 m 0 ls []) := by
    intro P hP H locs hw
    refine lv_iconst (v := 2) hx hb dX5_sides_0 (by decide) ?_
    refine lv_aload_n hx hb dX5_sides_1 rfl (lv_at hl 0 rfl) ?_
    refine va_get (D := D) (ci := 5) (v := .int (s4_i u 1)) (C := RX5) (T := TX5) (N := 9) hx hb htG in_5 hown hK hw.1 3 (xo_3 a k3 u) rfl 8 (by decide) f_37 (fun _ h9 => h9) rfl dX5_sides_2 ?_
    refine lv_imul hx hb dX5_sides_5 ?_
    exact ret_i hx hb hr hlocks hw dX5_sides_6 (congrArg (fun z => (z, u)) hP)
  exact hgo _ rfl s.heap [] hw
theorem dX4_soonestUnsettled_0 : decode cX4_soonestUnsettled 0 = .ok (.iconst (-1), 1) := by decide +kernel
theorem dX4_soonestUnsettled_1 : decode cX4_soonestUnsettled 1 = .ok (.istore_n 2, 1) := by decide +kernel
theorem dX4_soonestUnsettled_2 : decode cX4_soonestUnsettled 2 = .ok (.ldc 55, 2) := by decide +kernel
theorem dX4_soonestUnsettled_4 : decode cX4_soonestUnsettled 4 = .ok (.istore_n 3, 1) := by decide +kernel
theorem dX4_soonestUnsettled_5 : decode cX4_soonestUnsettled 5 = .ok (.iconst 0, 1) := by decide +kernel
theorem dX4_soonestUnsettled_6 : decode cX4_soonestUnsettled 6 = .ok (.istore 4, 2) := by decide +kernel
theorem dX4_soonestUnsettled_8 : decode cX4_soonestUnsettled 8 = .ok (.iload 4, 2) := by decide +kernel
theorem dX4_soonestUnsettled_10 : decode cX4_soonestUnsettled 10 = .ok (.iload_n 1, 1) := by decide +kernel
theorem dX4_soonestUnsettled_11 : decode cX4_soonestUnsettled 11 = .ok (.if_icmp .ge 41, 3) := by decide +kernel
theorem dX4_soonestUnsettled_14 : decode cX4_soonestUnsettled 14 = .ok (.aload_n 0, 1) := by decide +kernel
theorem dX4_soonestUnsettled_15 : decode cX4_soonestUnsettled 15 = .ok (.getfield 15, 3) := by decide +kernel
theorem dX4_soonestUnsettled_18 : decode cX4_soonestUnsettled 18 = .ok (.iload 4, 2) := by decide +kernel
theorem dX4_soonestUnsettled_20 : decode cX4_soonestUnsettled 20 = .ok (.baload, 1) := by decide +kernel
theorem dX4_soonestUnsettled_21 : decode cX4_soonestUnsettled 21 = .ok (.ifCond .ne 25, 3) := by decide +kernel
theorem dX4_soonestUnsettled_24 : decode cX4_soonestUnsettled 24 = .ok (.aload_n 0, 1) := by decide +kernel
theorem dX4_soonestUnsettled_25 : decode cX4_soonestUnsettled 25 = .ok (.getfield 9, 3) := by decide +kernel
theorem dX4_soonestUnsettled_28 : decode cX4_soonestUnsettled 28 = .ok (.iload 4, 2) := by decide +kernel
theorem dX4_soonestUnsettled_30 : decode cX4_soonestUnsettled 30 = .ok (.iaload, 1) := by decide +kernel
theorem dX4_soonestUnsettled_31 : decode cX4_soonestUnsettled 31 = .ok (.iload_n 3, 1) := by decide +kernel
theorem dX4_soonestUnsettled_32 : decode cX4_soonestUnsettled 32 = .ok (.if_icmp .ge 14, 3) := by decide +kernel
theorem dX4_soonestUnsettled_35 : decode cX4_soonestUnsettled 35 = .ok (.iload 4, 2) := by decide +kernel
theorem dX4_soonestUnsettled_37 : decode cX4_soonestUnsettled 37 = .ok (.istore_n 2, 1) := by decide +kernel
theorem dX4_soonestUnsettled_38 : decode cX4_soonestUnsettled 38 = .ok (.aload_n 0, 1) := by decide +kernel
theorem dX4_soonestUnsettled_39 : decode cX4_soonestUnsettled 39 = .ok (.getfield 9, 3) := by decide +kernel
theorem dX4_soonestUnsettled_42 : decode cX4_soonestUnsettled 42 = .ok (.iload 4, 2) := by decide +kernel
theorem dX4_soonestUnsettled_44 : decode cX4_soonestUnsettled 44 = .ok (.iaload, 1) := by decide +kernel
theorem dX4_soonestUnsettled_45 : decode cX4_soonestUnsettled 45 = .ok (.istore_n 3, 1) := by decide +kernel
theorem dX4_soonestUnsettled_46 : decode cX4_soonestUnsettled 46 = .ok (.iinc 4 1, 3) := by decide +kernel
theorem dX4_soonestUnsettled_49 : decode cX4_soonestUnsettled 49 = .ok (.goto (-41), 3) := by decide +kernel
theorem dX4_soonestUnsettled_52 : decode cX4_soonestUnsettled 52 = .ok (.iload_n 2, 1) := by decide +kernel
theorem dX4_soonestUnsettled_53 : decode cX4_soonestUnsettled 53 = .ok (.ireturn, 1) := by decide +kernel
abbrev rm_xSearch_soonestUnsettled : Room := { frames := 0, cells := 0, slots := 0, locals := 0 }
def xB_Search_soonestUnsettled_8 (u : S4) (K8 : Int32 → Int32 → Int32 → Int32 → Int32) (y1 : Int32) (y2 : Int32) (y3 : Int32) (y4 : Int32) : Int32 :=
  if y1 ≤ y4 then
    y2
  else
    if (s4_ra u 11 y4) = (0 : Int32) then
      if y3 ≤ (s4_ra u 10 y4) then
        let v7 : Int32 := (y4 + (1 : Int32))
        K8 y1 y2 y3 v7
      else
        let v9 : Int32 := (s4_ra u 10 y4)
        let v10 : Int32 := (y4 + (1 : Int32))
        K8 y1 y4 v9 v10
    else
      let v4 : Int32 := (y4 + (1 : Int32))
      K8 y1 y2 y3 v4
def xL_Search_soonestUnsettled_8 (u : S4) : Nat → Int32 → Int32 → Int32 → Int32 → Int32
  | 0 => fun _ _ _ _ => 0
  | n + 1 => xB_Search_soonestUnsettled_8 u (xL_Search_soonestUnsettled_8 u n)
def xBq_Search_soonestUnsettled_8 (u : S4) (Q8 : Int32 → Int32 → Int32 → Int32 → Prop) (y1 : Int32) (y2 : Int32) (y3 : Int32) (y4 : Int32) : Prop :=
  (¬ y1 ≤ y4 →
    vp_in y4 24 ∧
    (((s4_ra u 11 y4) = (0 : Int32) →
      vp_in y4 24 ∧
      ((y3 ≤ (s4_ra u 10 y4) →
        let v7 : Int32 := (y4 + (1 : Int32))
        Q8 y1 y2 y3 v7) ∧ (¬ y3 ≤ (s4_ra u 10 y4) →
        vp_in y4 24 ∧
        let v9 : Int32 := (s4_ra u 10 y4)
        let v10 : Int32 := (y4 + (1 : Int32))
        Q8 y1 y4 v9 v10))) ∧ (¬ (s4_ra u 11 y4) = (0 : Int32) →
      let v4 : Int32 := (y4 + (1 : Int32))
      Q8 y1 y2 y3 v4)))
def xLq_Search_soonestUnsettled_8 (u : S4) : Nat → Int32 → Int32 → Int32 → Int32 → Prop
  | 0 => fun _ _ _ _ => False
  | n + 1 => xBq_Search_soonestUnsettled_8 u (xLq_Search_soonestUnsettled_8 u n)
set_option maxHeartbeats 4000000 in
set_option maxRecDepth 100000 in
theorem xs_Search_soonestUnsettled_8 (l : Launch) (D : va_G) (a : Nat → Nat) (k3 : K3) {p : Program} {e : Env} {s : State} {m : MethodId} {below : List Frame} {meth : Method} {c : Code} {A : Nat → Prop} (av : Array Value) (F : Fx p s m meth c av cX4_soonestUnsettled 5 (some .int) yX4_soonestUnsettled.cls (kX4_soonestUnsettled :: tbG) D vwCl (ty3 k3) nestW A) (P : Int32) (u : S4) (K8 : Int32 → Int32 → Int32 → Int32 → Int32) (Q8 : Int32 → Int32 → Int32 → Int32 → Prop) (hK8 : ∀ (y1 : Int32) (y2 : Int32) (y3 : Int32) (y4 : Int32) (H : Heap) (locs : List Loc) (ls : Array Slot), Q8 y1 y2 y3 y4 → K8 y1 y2 y3 y4 = P → wd D vwCl (xC a k3) A s.heap u H locs → lv_has ls 5 [(0, .ref (a 5)), (1, .int y1), (2, .int y2), (3, .int y3), (4, .int y4)] → W p l e rm_xSearch_soonestUnsettled s m av below meth c H locs 0 0 (QI below D vwCl (xC a k3) A av s (P, u)) (F0 m 8 ls [])) : ∀ (y1 : Int32) (y2 : Int32) (y3 : Int32) (y4 : Int32) (H : Heap) (locs : List Loc) (ls : Array Slot), xBq_Search_soonestUnsettled_8 u Q8 y1 y2 y3 y4 → xB_Search_soonestUnsettled_8 u K8 y1 y2 y3 y4 = P → wd D vwCl (xC a k3) A s.heap u H locs → lv_has ls 5 [(0, .ref (a 5)), (1, .int y1), (2, .int y2), (3, .int y3), (4, .int y4)] → W p l e rm_xSearch_soonestUnsettled s m av below meth c H locs 0 0 (QI below D vwCl (xC a k3) A av s (P, u)) (F0 m 8 ls []) := by
  obtain ⟨hx, hb, hr, hml, hown, hts, hK, hN, hlocks, hA⟩ := id F
  have hown : s.vm.findClass RX4 = some m.cls := hown
  have htG : ∀ w ∈ tbG, w.before av s = true := fun w h => hts w (List.mem_cons_of_mem _ h)
  have f_15 := htG _ tb_141
  have f_9 := htG _ tb_140
  intro y1 y2 y3 y4 H locs ls hq hP hw hl
  refine lv_iload hx hb dX4_soonestUnsettled_8 (lv_at hl 4 rfl) ?_
  refine lv_iload_n hx hb dX4_soonestUnsettled_10 rfl (lv_at hl 1 rfl) ?_
  refine lv_icmp_ge (tgt := 52) hx hb dX4_soonestUnsettled_11 (by decide) (fun c1 => ?_) (fun c1 => ?_)
  · have hP := (if_pos c1).symm.trans hP
    refine lv_iload_n hx hb dX4_soonestUnsettled_52 rfl (lv_at hl 2 rfl) ?_
    exact ret_i hx hb hr hlocks hw dX4_soonestUnsettled_53 (congrArg (fun z => (z, u)) hP)
  · have hP := (if_neg c1).symm.trans hP
    have hq := hq c1
    refine lv_aload_n hx hb dX4_soonestUnsettled_14 rfl (lv_at hl 0 rfl) ?_
    refine va_get (D := D) (ci := 4) (v := .ref (a 24)) (C := RX4) (T := TX4) (N := 6) hx hb htG in_4 hown hK hw.1 5 (xo_5 a k3 u) rfl 1 (by decide) f_15 (fun _ h9 => h9) rfl dX4_soonestUnsettled_15 ?_
    refine lv_iload hx hb dX4_soonestUnsettled_18 (lv_at hl 4 rfl) ?_
    obtain ⟨h2, hq⟩ := hq
    refine y_zald (t0 := 2) hx hb hK hw 11 (xo_24 a k3 u) rfl h2 dX4_soonestUnsettled_20 ?_
    refine lv_if_ne (tgt := 46) hx hb dX4_soonestUnsettled_21 (by decide) (fun c3 => ?_) (fun c3 => ?_)
    · have hP := (if_neg c3).symm.trans hP
      have hq := hq.2 c3
      let v4 : Int32 := (y4 + (1 : Int32))
      refine lv_iinc (v := v4) (lv' := [(4, .int v4), (0, .ref (a 5)), (1, .int y1), (2, .int y2), (3, .int y3)]) hx hb dX4_soonestUnsettled_46 hl (k := 4) rfl rfl (by decide) rfl (fun ls hl => ?_)
      refine lv_goto (tgt := 8) hx hb dX4_soonestUnsettled_49 (by decide) ?_
      exact hK8 (y1) (y2) (y3) (v4) H locs ls hq hP hw (lv_sub hl [1, 2, 3, 4, 0] rfl)
    · have hP := (if_pos c3).symm.trans hP
      have hq := hq.1 c3
      refine lv_aload_n hx hb dX4_soonestUnsettled_24 rfl (lv_at hl 0 rfl) ?_
      refine va_get (D := D) (ci := 4) (v := .ref (a 23)) (C := RX4) (T := TX4) (N := 6) hx hb htG in_4 hown hK hw.1 5 (xo_5 a k3 u) rfl 0 (by decide) f_9 (fun _ h9 => h9) rfl dX4_soonestUnsettled_25 ?_
      refine lv_iload hx hb dX4_soonestUnsettled_28 (lv_at hl 4 rfl) ?_
      obtain ⟨h5, hq⟩ := hq
      refine y_iald (t0 := 0) hx hb hK hw 10 (xo_23 a k3 u) rfl h5 dX4_soonestUnsettled_30 ?_
      refine lv_iload_n hx hb dX4_soonestUnsettled_31 rfl (lv_at hl 3 rfl) ?_
      refine lv_icmp_ge (tgt := 46) hx hb dX4_soonestUnsettled_32 (by decide) (fun c6 => ?_) (fun c6 => ?_)
      · have hP := (if_pos c6).symm.trans hP
        have hq := hq.1 c6
        let v7 : Int32 := (y4 + (1 : Int32))
        refine lv_iinc (v := v7) (lv' := [(4, .int v7), (0, .ref (a 5)), (1, .int y1), (2, .int y2), (3, .int y3)]) hx hb dX4_soonestUnsettled_46 hl (k := 4) rfl rfl (by decide) rfl (fun ls hl => ?_)
        refine lv_goto (tgt := 8) hx hb dX4_soonestUnsettled_49 (by decide) ?_
        exact hK8 (y1) (y2) (y3) (v7) H locs ls hq hP hw (lv_sub hl [1, 2, 3, 4, 0] rfl)
      · have hP := (if_neg c6).symm.trans hP
        have hq := hq.2 c6
        refine lv_iload hx hb dX4_soonestUnsettled_35 (lv_at hl 4 rfl) ?_
        refine lv_istore_n (lv' := [(2, .int y4), (0, .ref (a 5)), (1, .int y1), (3, .int y3), (4, .int y4)]) hx hb dX4_soonestUnsettled_37 rfl hl (by decide) rfl (fun ls hl => ?_)
        refine lv_aload_n hx hb dX4_soonestUnsettled_38 rfl (lv_at hl 1 rfl) ?_
        refine va_get (D := D) (ci := 4) (v := .ref (a 23)) (C := RX4) (T := TX4) (N := 6) hx hb htG in_4 hown hK hw.1 5 (xo_5 a k3 u) rfl 0 (by decide) f_9 (fun _ h9 => h9) rfl dX4_soonestUnsettled_39 ?_
        refine lv_iload hx hb dX4_soonestUnsettled_42 (lv_at hl 4 rfl) ?_
        obtain ⟨h8, hq⟩ := hq
        refine y_iald (t0 := 0) hx hb hK hw 10 (xo_23 a k3 u) rfl h8 dX4_soonestUnsettled_44 ?_
        let v9 : Int32 := (s4_ra u 10 y4)
        refine lv_istore_n (lv' := [(3, .int v9), (2, .int y4), (0, .ref (a 5)), (1, .int y1), (4, .int y4)]) hx hb dX4_soonestUnsettled_45 rfl hl (by decide) rfl (fun ls hl => ?_)
        let v10 : Int32 := (y4 + (1 : Int32))
        refine lv_iinc (v := v10) (lv' := [(4, .int v10), (3, .int v9), (2, .int y4), (0, .ref (a 5)), (1, .int y1)]) hx hb dX4_soonestUnsettled_46 hl (k := 4) rfl rfl (by decide) rfl (fun ls hl => ?_)
        refine lv_goto (tgt := 8) hx hb dX4_soonestUnsettled_49 (by decide) ?_
        exact hK8 (y1) (y4) (v9) (v10) H locs ls hq hP hw (lv_sub hl [3, 4, 2, 1, 0] rfl)
set_option maxHeartbeats 4000000 in
set_option maxRecDepth 100000 in
theorem xw_Search_soonestUnsettled_8 (l : Launch) (D : va_G) (a : Nat → Nat) (k3 : K3) {p : Program} {e : Env} {s : State} {m : MethodId} {below : List Frame} {meth : Method} {c : Code} {A : Nat → Prop} (av : Array Value) (F : Fx p s m meth c av cX4_soonestUnsettled 5 (some .int) yX4_soonestUnsettled.cls (kX4_soonestUnsettled :: tbG) D vwCl (ty3 k3) nestW A) (P : Int32) (u : S4) : ∀ (n : Nat), ∀ (y1 : Int32) (y2 : Int32) (y3 : Int32) (y4 : Int32) (H : Heap) (locs : List Loc) (ls : Array Slot), xLq_Search_soonestUnsettled_8 u n y1 y2 y3 y4 → xL_Search_soonestUnsettled_8 u n y1 y2 y3 y4 = P → wd D vwCl (xC a k3) A s.heap u H locs → lv_has ls 5 [(0, .ref (a 5)), (1, .int y1), (2, .int y2), (3, .int y3), (4, .int y4)] → W p l e rm_xSearch_soonestUnsettled s m av below meth c H locs 0 0 (QI below D vwCl (xC a k3) A av s (P, u)) (F0 m 8 ls []) := by
  intro n
  induction n with
  | zero => intro y1 y2 y3 y4 H locs ls hq hP hw hl; exact hq.elim
  | succ n ih => intro y1 y2 y3 y4 H locs ls hq hP hw hl; exact xs_Search_soonestUnsettled_8 l D a k3 av F P u (xL_Search_soonestUnsettled_8 u n) (xLq_Search_soonestUnsettled_8 u n) ih y1 y2 y3 y4 H locs ls hq hP hw hl
def xp_Search_soonestUnsettled (u : S4) (x1 : Int32) : Int32 :=
  xL_Search_soonestUnsettled_8 u 64 x1 (-1 : Int32) (63244800 : Int32) (0 : Int32)
def xq_Search_soonestUnsettled (u : S4) (x1 : Int32) : Prop :=
  xLq_Search_soonestUnsettled_8 u 64 x1 (-1 : Int32) (63244800 : Int32) (0 : Int32)
set_option maxHeartbeats 4000000 in
set_option maxRecDepth 100000 in
theorem xc_Search_soonestUnsettled (l : Launch) (D : va_G) (a : Nat → Nat) (k3 : K3) (u : S4) (x1 : Int32) (hq : xq_Search_soonestUnsettled u x1) : MI l D vwCl (ty3 k3) nestW (xC a k3) yX4_soonestUnsettled (kX4_soonestUnsettled :: tbG) rm_xSearch_soonestUnsettled [.ref (a 5), .int x1] u (xp_Search_soonestUnsettled u x1, u) := by
  refine mkI (cc := cX4_soonestUnsettled) (maxL := 5) (ret := (some .int)) (by decide) rfl (Nat.le_of_ble_eq_true rfl) ?_
  intro p e s m below meth c A ls F hw hl
  generalize hav : ([.ref (a 5), .int x1] : List Value).toArray = av at F ⊢
  have hl : lv_has ls 5 [(0, .ref (a 5)), (1, .int x1)] := hl
  obtain ⟨hx, hb, hr, hml, hown, hts, hK, hN, hlocks, hA⟩ := id F
  have hown : s.vm.findClass RX4 = some m.cls := hown
  have htG : ∀ w ∈ tbG, w.before av s = true := fun w h => hts w (List.mem_cons_of_mem _ h)
  have k_55 := htG _ tb_310
  have hgo : ∀ P, xp_Search_soonestUnsettled u x1 = P → ∀ (H : Heap) (locs : List Loc), wd D vwCl (xC a k3) A s.heap u H locs → W p l e rm_xSearch_soonestUnsettled s m av below meth c H locs 0 0 (QI below D vwCl (xC a k3) A av s (P, u)) (F0 m 0 ls []) := by
    intro P hP H locs hw
    refine lv_iconst (v := -1) hx hb dX4_soonestUnsettled_0 (by decide) ?_
    refine lv_istore_n (lv' := [(2, .int (-1 : Int32)), (0, .ref (a 5)), (1, .int x1)]) hx hb dX4_soonestUnsettled_1 rfl hl (by decide) rfl (fun ls hl => ?_)
    refine lv_ldc (v := 63244800) hx hb hown k_55 dX4_soonestUnsettled_2 ?_
    refine lv_istore_n (lv' := [(3, .int (63244800 : Int32)), (2, .int (-1 : Int32)), (0, .ref (a 5)), (1, .int x1)]) hx hb dX4_soonestUnsettled_4 rfl hl (by decide) rfl (fun ls hl => ?_)
    refine lv_iconst (v := 0) hx hb dX4_soonestUnsettled_5 (by decide) ?_
    refine lv_istore (lv' := [(4, .int (0 : Int32)), (3, .int (63244800 : Int32)), (2, .int (-1 : Int32)), (0, .ref (a 5)), (1, .int x1)]) hx hb dX4_soonestUnsettled_6 hl (by decide) rfl (fun ls hl => ?_)
    exact xw_Search_soonestUnsettled_8 l D a k3 av F P u 64 x1 (-1 : Int32) (63244800 : Int32) (0 : Int32) H locs ls hq hP hw (lv_sub hl [3, 4, 2, 1, 0] rfl)
  exact hgo _ rfl s.heap [] hw
theorem dX7_streetOf_0 : decode cX7_streetOf 0 = .ok (.iload_n 0, 1) := by decide +kernel
theorem dX7_streetOf_1 : decode cX7_streetOf 1 = .ok (.iconst 2, 1) := by decide +kernel
theorem dX7_streetOf_2 : decode cX7_streetOf 2 = .ok (.idiv, 1) := by decide +kernel
theorem dX7_streetOf_3 : decode cX7_streetOf 3 = .ok (.ireturn, 1) := by decide +kernel
abbrev rm_xO_streetOf : Room := { frames := 0, cells := 0, slots := 0, locals := 0 }
def xp_O_streetOf (u : S4) (x0 : Int32) : Int32 :=
  (x0 / (2 : Int32))
set_option maxHeartbeats 4000000 in
set_option maxRecDepth 100000 in
theorem xc_O_streetOf (l : Launch) (D : va_G) (a : Nat → Nat) (k3 : K3) (u : S4) (x0 : Int32) : MI l D vwCl (ty3 k3) nestW (xC a k3) yX7_streetOf (kX7_streetOf :: tbG) rm_xO_streetOf [.int x0] u (xp_O_streetOf u x0, u) := by
  refine mkI (cc := cX7_streetOf) (maxL := 1) (ret := (some .int)) (by decide) rfl (Nat.le_of_ble_eq_true rfl) ?_
  intro p e s m below meth c A ls F hw hl
  generalize hav : ([.int x0] : List Value).toArray = av at F ⊢
  have hl : lv_has ls 1 [(0, .int x0)] := hl
  obtain ⟨hx, hb, hr, hml, hown, hts, hK, hN, hlocks, hA⟩ := id F
  have hown : s.vm.findClass RX7 = some m.cls := hown
  have htG : ∀ w ∈ tbG, w.before av s = true := fun w h => hts w (List.mem_cons_of_mem _ h)
  have hgo : ∀ P, xp_O_streetOf u x0 = P → ∀ (H : Heap) (locs : List Loc), wd D vwCl (xC a k3) A s.heap u H locs → W p l e rm_xO_streetOf s m av below meth c H locs 0 0 (QI below D vwCl (xC a k3) A av s (P, u)) (F0 m 0 ls []) := by
    intro P hP H locs hw
    refine lv_iload_n hx hb dX7_streetOf_0 rfl (lv_at hl 0 rfl) ?_
    refine lv_iconst (v := 2) hx hb dX7_streetOf_1 (by decide) ?_
    refine lv_idiv hx hb dX7_streetOf_2 (by decide) ?_
    exact ret_i hx hb hr hlocks hw dX7_streetOf_3 (congrArg (fun z => (z, u)) hP)
  exact hgo _ rfl s.heap [] hw
