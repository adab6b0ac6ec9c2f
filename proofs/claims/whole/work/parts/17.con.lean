theorem dX8_hours_0 : decode cX8_hours 0 = .ok (.aload_n 0, 1) := by decide +kernel
theorem dX8_hours_1 : decode cX8_hours 1 = .ok (.iload_n 1, 1) := by decide +kernel
theorem dX8_hours_2 : decode cX8_hours 2 = .ok (.invokevirtual 88, 3) := by decide +kernel
theorem dX8_hours_5 : decode cX8_hours 5 = .ok (.ifCond .eq 18, 3) := by decide +kernel
theorem dX8_hours_8 : decode cX8_hours 8 = .ok (.iload_n 2, 1) := by decide +kernel
theorem dX8_hours_9 : decode cX8_hours 9 = .ok (.ifCond .lt 14, 3) := by decide +kernel
theorem dX8_hours_12 : decode cX8_hours 12 = .ok (.iload_n 2, 1) := by decide +kernel
theorem dX8_hours_13 : decode cX8_hours 13 = .ok (.iload_n 3, 1) := by decide +kernel
theorem dX8_hours_14 : decode cX8_hours 14 = .ok (.if_icmp .gt 9, 3) := by decide +kernel
theorem dX8_hours_17 : decode cX8_hours 17 = .ok (.iload_n 3, 1) := by decide +kernel
theorem dX8_hours_18 : decode cX8_hours 18 = .ok (.ldc 112, 2) := by decide +kernel
theorem dX8_hours_20 : decode cX8_hours 20 = .ok (.if_icmp .lt 5, 3) := by decide +kernel
theorem dX8_hours_23 : decode cX8_hours 23 = .ok (.iconst 0, 1) := by decide +kernel
theorem dX8_hours_24 : decode cX8_hours 24 = .ok (.ireturn, 1) := by decide +kernel
theorem dX8_hours_25 : decode cX8_hours 25 = .ok (.aload_n 0, 1) := by decide +kernel
theorem dX8_hours_26 : decode cX8_hours 26 = .ok (.getfield 39, 3) := by decide +kernel
theorem dX8_hours_29 : decode cX8_hours 29 = .ok (.iload_n 1, 1) := by decide +kernel
theorem dX8_hours_30 : decode cX8_hours 30 = .ok (.iload_n 2, 1) := by decide +kernel
theorem dX8_hours_31 : decode cX8_hours 31 = .ok (.iastore, 1) := by decide +kernel
theorem dX8_hours_32 : decode cX8_hours 32 = .ok (.aload_n 0, 1) := by decide +kernel
theorem dX8_hours_33 : decode cX8_hours 33 = .ok (.getfield 42, 3) := by decide +kernel
theorem dX8_hours_36 : decode cX8_hours 36 = .ok (.iload_n 1, 1) := by decide +kernel
theorem dX8_hours_37 : decode cX8_hours 37 = .ok (.iload_n 3, 1) := by decide +kernel
theorem dX8_hours_38 : decode cX8_hours 38 = .ok (.iastore, 1) := by decide +kernel
theorem dX8_hours_39 : decode cX8_hours 39 = .ok (.iconst 1, 1) := by decide +kernel
theorem dX8_hours_40 : decode cX8_hours 40 = .ok (.ireturn, 1) := by decide +kernel
abbrev rm_mM_hours : Room := { frames := 1, cells := 0, slots := 0, locals := 21 }
def mp_M_hours (u : S4) (x1 : Int32) (x2 : Int32) (x3 : Int32) : Int32 × S4 :=
  let r1 : Int32 := mp_M_isStreet u x1
  if r1 = (0 : Int32) then
    ((0 : Int32), u)
  else
    if x2 < (0 : Int32) then
      ((0 : Int32), u)
    else
      if x3 < x2 then
        ((0 : Int32), u)
      else
        if x3 < (86400 : Int32) then
          let u7 : S4 := s4_wa u 7 x1 x2
          let u9 : S4 := s4_wa u7 8 x1 x3
          ((1 : Int32), u9)
        else
          ((0 : Int32), u)
def mq_M_hours (u : S4) (x1 : Int32) (x2 : Int32) (x3 : Int32) : Prop :=
  let r1 : Int32 := mp_M_isStreet u x1
  (¬ r1 = (0 : Int32) →
    (¬ x2 < (0 : Int32) →
      (¬ x3 < x2 →
        (x3 < (86400 : Int32) →
          vp_in x1 12 ∧
          let u7 : S4 := s4_wa u 7 x1 x2
          vp_in x1 12))))
set_option maxHeartbeats 4000000 in
set_option maxRecDepth 100000 in
theorem mc_M_hours (l : Launch) (D : va_G) (a : Nat → Nat) (k3 : K3) (u : S4) (x1 : Int32) (x2 : Int32) (x3 : Int32) (hq : mq_M_hours u x1 x2 x3) : MI l D vwCl (ty3 k3) nestW (mC a k3) yX8_hours (kX8_hours :: tbG) rm_mM_hours [.ref (a 0), .int x1, .int x2, .int x3] u (mp_M_hours u x1 x2 x3) := by
  refine mkI (cc := cX8_hours) (maxL := 4) (ret := (some .boolean)) (by decide) rfl (Nat.le_of_ble_eq_true rfl) ?_
  intro p e s m below meth c A ls F hw hl
  generalize hav : ([.ref (a 0), .int x1, .int x2, .int x3] : List Value).toArray = av at F ⊢
  have hl : lv_has ls 4 [(0, .ref (a 0)), (1, .int x1), (2, .int x2), (3, .int x3)] := hl
  obtain ⟨hx, hb, hr, hml, hown, hts, hK, hN, hlocks, hA⟩ := id F
  have hown : s.vm.findClass RX8 = some m.cls := hown
  have htG : ∀ w ∈ tbG, w.before av s = true := fun w h => hts w (List.mem_cons_of_mem _ h)
  have k_112 := htG _ tb_633
  have f_39 := htG _ tb_527
  have f_42 := htG _ tb_528
  have hgo : ∀ P, mp_M_hours u x1 x2 x3 = P → ∀ (H : Heap) (locs : List Loc), wd D vwCl (mC a k3) A s.heap u H locs → W p l e rm_mM_hours s m av below meth c H locs 0 0 (QI below D vwCl (mC a k3) A av s P) (F0 m 0 ls []) := by
    intro P hP H locs hw
    refine lv_aload_n hx hb dX8_hours_0 rfl (lv_at hl 0 rfl) ?_
    refine lv_iload_n hx hb dX8_hours_1 rfl (lv_at hl 1 rfl) ?_
    let r1 : Int32 := mp_M_isStreet u x1
    refine call_vir (rest := []) ⟨hx, hb, hml, hown, htG⟩ nestW_ok hK hN hA (mc_M_isStreet l D a k3 u x1) (cwV 1 htG (tb_V tb_624 tb_626 tb_10 tb_28 tb_627) rfl rfl rfl (by decide +kernel) ⟨Nat.le_of_ble_eq_true rfl, Nat.le_of_ble_eq_true rfl⟩) (ci := 8) rfl (mo_0 a k3 u) rfl hw rfl hl.1 rfl (Nat.le_of_ble_eq_true rfl) dX8_hours_2 ⟨Nat.zero_le _, Nat.zero_le _⟩ (fun H locs (hw : wd D vwCl (mC a k3) A s.heap u H locs) => ?_)
    refine lv_if_eq (tgt := 23) hx hb dX8_hours_5 (by decide) (fun c2 => ?_) (fun c2 => ?_)
    · have hP := (if_pos c2).symm.trans hP
      refine lv_iconst (v := 0) hx hb dX8_hours_23 (by decide) ?_
      exact ret_z hx hb hr hlocks hw rfl dX8_hours_24 hP
    · have hP := (if_neg c2).symm.trans hP
      have hq := hq c2
      refine lv_iload_n hx hb dX8_hours_8 rfl (lv_at hl 2 rfl) ?_
      refine lv_if_lt (tgt := 23) hx hb dX8_hours_9 (by decide) (fun c3 => ?_) (fun c3 => ?_)
      · have hP := (if_pos c3).symm.trans hP
        refine lv_iconst (v := 0) hx hb dX8_hours_23 (by decide) ?_
        exact ret_z hx hb hr hlocks hw rfl dX8_hours_24 hP
      · have hP := (if_neg c3).symm.trans hP
        have hq := hq c3
        refine lv_iload_n hx hb dX8_hours_12 rfl (lv_at hl 2 rfl) ?_
        refine lv_iload_n hx hb dX8_hours_13 rfl (lv_at hl 3 rfl) ?_
        refine lv_icmp_gt (tgt := 23) hx hb dX8_hours_14 (by decide) (fun c4 => ?_) (fun c4 => ?_)
        · have hP := (if_pos c4).symm.trans hP
          refine lv_iconst (v := 0) hx hb dX8_hours_23 (by decide) ?_
          exact ret_z hx hb hr hlocks hw rfl dX8_hours_24 hP
        · have hP := (if_neg c4).symm.trans hP
          have hq := hq c4
          refine lv_iload_n hx hb dX8_hours_17 rfl (lv_at hl 3 rfl) ?_
          refine lv_ldc (v := 86400) hx hb hown k_112 dX8_hours_18 ?_
          refine lv_icmp_lt (tgt := 25) hx hb dX8_hours_20 (by decide) (fun c5 => ?_) (fun c5 => ?_)
          · have hP := (if_pos c5).symm.trans hP
            have hq := hq c5
            refine lv_aload_n hx hb dX8_hours_25 rfl (lv_at hl 0 rfl) ?_
            refine va_get (D := D) (ci := 8) (v := .ref (a 10)) (C := RX8) (T := TX8) (N := 28) hx hb htG in_8 hown hK hw.1 0 (mo_0 a k3 u) rfl 13 (by decide) f_39 (fun _ h9 => h9) rfl dX8_hours_26 ?_
            refine lv_iload_n hx hb dX8_hours_29 rfl (lv_at hl 1 rfl) ?_
            refine lv_iload_n hx hb dX8_hours_30 rfl (lv_at hl 2 rfl) ?_
            obtain ⟨h6, hq⟩ := hq
            let u7 : S4 := s4_wa u 7 x1 x2
            refine y_iast (t0 := 0) hx hb hK hw 7 (mo_10 a k3 u) (mq_10 a k3 u) rfl h6 dX8_hours_31 (fun H locs (hw : wd D vwCl (mC a k3) A s.heap u7 H locs) => ?_)
            refine lv_aload_n hx hb dX8_hours_32 rfl (lv_at hl 0 rfl) ?_
            refine va_get (D := D) (ci := 8) (v := .ref (a 11)) (C := RX8) (T := TX8) (N := 28) hx hb htG in_8 hown hK hw.1 0 (mo_0 a k3 u7) rfl 14 (by decide) f_42 (fun _ h9 => h9) rfl dX8_hours_33 ?_
            refine lv_iload_n hx hb dX8_hours_36 rfl (lv_at hl 1 rfl) ?_
            refine lv_iload_n hx hb dX8_hours_37 rfl (lv_at hl 3 rfl) ?_
            have h8 := hq
            let u9 : S4 := s4_wa u7 8 x1 x3
            refine y_iast (t0 := 0) hx hb hK hw 8 (mo_11 a k3 u7) (mq_11 a k3 u7) rfl h8 dX8_hours_38 (fun H locs (hw : wd D vwCl (mC a k3) A s.heap u9 H locs) => ?_)
            refine lv_iconst (v := 1) hx hb dX8_hours_39 (by decide) ?_
            exact ret_z hx hb hr hlocks hw rfl dX8_hours_40 hP
          · have hP := (if_neg c5).symm.trans hP
            refine lv_iconst (v := 0) hx hb dX8_hours_23 (by decide) ?_
            exact ret_z hx hb hr hlocks hw rfl dX8_hours_24 hP
  exact hgo _ rfl s.heap [] hw
theorem dX8_limit_0 : decode cX8_limit 0 = .ok (.iload_n 1, 1) := by decide +kernel
theorem dX8_limit_1 : decode cX8_limit 1 = .ok (.iconst (-1), 1) := by decide +kernel
theorem dX8_limit_2 : decode cX8_limit 2 = .ok (.if_icmp .eq 11, 3) := by decide +kernel
theorem dX8_limit_5 : decode cX8_limit 5 = .ok (.aload_n 0, 1) := by decide +kernel
theorem dX8_limit_6 : decode cX8_limit 6 = .ok (.iload_n 1, 1) := by decide +kernel
theorem dX8_limit_7 : decode cX8_limit 7 = .ok (.invokevirtual 88, 3) := by decide +kernel
theorem dX8_limit_10 : decode cX8_limit 10 = .ok (.ifCond .eq 23, 3) := by decide +kernel
theorem dX8_limit_13 : decode cX8_limit 13 = .ok (.iload_n 2, 1) := by decide +kernel
theorem dX8_limit_14 : decode cX8_limit 14 = .ok (.ifCond .lt 19, 3) := by decide +kernel
theorem dX8_limit_17 : decode cX8_limit 17 = .ok (.iload_n 2, 1) := by decide +kernel
theorem dX8_limit_18 : decode cX8_limit 18 = .ok (.iconst 1, 1) := by decide +kernel
theorem dX8_limit_19 : decode cX8_limit 19 = .ok (.if_icmp .gt 14, 3) := by decide +kernel
theorem dX8_limit_22 : decode cX8_limit 22 = .ok (.lload_n 3, 1) := by decide +kernel
theorem dX8_limit_23 : decode cX8_limit 23 = .ok (.lconst 0, 1) := by decide +kernel
theorem dX8_limit_24 : decode cX8_limit 24 = .ok (.ldc2_w 107, 3) := by decide +kernel
theorem dX8_limit_27 : decode cX8_limit 27 = .ok (.invokestatic 96, 3) := by decide +kernel
theorem dX8_limit_30 : decode cX8_limit 30 = .ok (.ifCond .ne 5, 3) := by decide +kernel
theorem dX8_limit_33 : decode cX8_limit 33 = .ok (.iconst 0, 1) := by decide +kernel
theorem dX8_limit_34 : decode cX8_limit 34 = .ok (.ireturn, 1) := by decide +kernel
theorem dX8_limit_35 : decode cX8_limit 35 = .ok (.iload_n 1, 1) := by decide +kernel
theorem dX8_limit_36 : decode cX8_limit 36 = .ok (.iconst (-1), 1) := by decide +kernel
theorem dX8_limit_37 : decode cX8_limit 37 = .ok (.if_icmp .ne 39, 3) := by decide +kernel
theorem dX8_limit_40 : decode cX8_limit 40 = .ok (.aload_n 0, 1) := by decide +kernel
theorem dX8_limit_41 : decode cX8_limit 41 = .ok (.iload_n 2, 1) := by decide +kernel
theorem dX8_limit_42 : decode cX8_limit 42 = .ok (.ifCond .ne 7, 3) := by decide +kernel
theorem dX8_limit_45 : decode cX8_limit 45 = .ok (.lload_n 3, 1) := by decide +kernel
theorem dX8_limit_46 : decode cX8_limit 46 = .ok (.goto 7, 3) := by decide +kernel
theorem dX8_limit_49 : decode cX8_limit 49 = .ok (.aload_n 0, 1) := by decide +kernel
theorem dX8_limit_50 : decode cX8_limit 50 = .ok (.getfield 113, 3) := by decide +kernel
theorem dX8_limit_53 : decode cX8_limit 53 = .ok (.putfield 113, 3) := by decide +kernel
theorem dX8_limit_56 : decode cX8_limit 56 = .ok (.aload_n 0, 1) := by decide +kernel
theorem dX8_limit_57 : decode cX8_limit 57 = .ok (.iload_n 2, 1) := by decide +kernel
theorem dX8_limit_58 : decode cX8_limit 58 = .ok (.iconst 1, 1) := by decide +kernel
theorem dX8_limit_59 : decode cX8_limit 59 = .ok (.if_icmp .ne 7, 3) := by decide +kernel
theorem dX8_limit_62 : decode cX8_limit 62 = .ok (.lload_n 3, 1) := by decide +kernel
theorem dX8_limit_63 : decode cX8_limit 63 = .ok (.goto 7, 3) := by decide +kernel
theorem dX8_limit_66 : decode cX8_limit 66 = .ok (.aload_n 0, 1) := by decide +kernel
theorem dX8_limit_67 : decode cX8_limit 67 = .ok (.getfield 117, 3) := by decide +kernel
theorem dX8_limit_70 : decode cX8_limit 70 = .ok (.putfield 117, 3) := by decide +kernel
theorem dX8_limit_73 : decode cX8_limit 73 = .ok (.goto 44, 3) := by decide +kernel
theorem dX8_limit_76 : decode cX8_limit 76 = .ok (.aload_n 0, 1) := by decide +kernel
theorem dX8_limit_77 : decode cX8_limit 77 = .ok (.getfield 32, 3) := by decide +kernel
theorem dX8_limit_80 : decode cX8_limit 80 = .ok (.iload_n 1, 1) := by decide +kernel
theorem dX8_limit_81 : decode cX8_limit 81 = .ok (.iload_n 2, 1) := by decide +kernel
theorem dX8_limit_82 : decode cX8_limit 82 = .ok (.ifCond .ne 7, 3) := by decide +kernel
theorem dX8_limit_85 : decode cX8_limit 85 = .ok (.lload_n 3, 1) := by decide +kernel
theorem dX8_limit_86 : decode cX8_limit 86 = .ok (.goto 9, 3) := by decide +kernel
theorem dX8_limit_89 : decode cX8_limit 89 = .ok (.aload_n 0, 1) := by decide +kernel
theorem dX8_limit_90 : decode cX8_limit 90 = .ok (.getfield 32, 3) := by decide +kernel
theorem dX8_limit_93 : decode cX8_limit 93 = .ok (.iload_n 1, 1) := by decide +kernel
theorem dX8_limit_94 : decode cX8_limit 94 = .ok (.laload, 1) := by decide +kernel
theorem dX8_limit_95 : decode cX8_limit 95 = .ok (.lastore, 1) := by decide +kernel
theorem dX8_limit_96 : decode cX8_limit 96 = .ok (.aload_n 0, 1) := by decide +kernel
theorem dX8_limit_97 : decode cX8_limit 97 = .ok (.getfield 36, 3) := by decide +kernel
theorem dX8_limit_100 : decode cX8_limit 100 = .ok (.iload_n 1, 1) := by decide +kernel
theorem dX8_limit_101 : decode cX8_limit 101 = .ok (.iload_n 2, 1) := by decide +kernel
theorem dX8_limit_102 : decode cX8_limit 102 = .ok (.iconst 1, 1) := by decide +kernel
theorem dX8_limit_103 : decode cX8_limit 103 = .ok (.if_icmp .ne 7, 3) := by decide +kernel
theorem dX8_limit_106 : decode cX8_limit 106 = .ok (.lload_n 3, 1) := by decide +kernel
theorem dX8_limit_107 : decode cX8_limit 107 = .ok (.goto 9, 3) := by decide +kernel
theorem dX8_limit_110 : decode cX8_limit 110 = .ok (.aload_n 0, 1) := by decide +kernel
theorem dX8_limit_111 : decode cX8_limit 111 = .ok (.getfield 36, 3) := by decide +kernel
theorem dX8_limit_114 : decode cX8_limit 114 = .ok (.iload_n 1, 1) := by decide +kernel
theorem dX8_limit_115 : decode cX8_limit 115 = .ok (.laload, 1) := by decide +kernel
theorem dX8_limit_116 : decode cX8_limit 116 = .ok (.lastore, 1) := by decide +kernel
theorem dX8_limit_117 : decode cX8_limit 117 = .ok (.iconst 1, 1) := by decide +kernel
theorem dX8_limit_118 : decode cX8_limit 118 = .ok (.ireturn, 1) := by decide +kernel
abbrev rm_mM_limit : Room := { frames := 1, cells := 0, slots := 0, locals := 25 }
def mp_M_limit (u : S4) (x1 : Int32) (x2 : Int32) (x3 : Int64) : Int32 × S4 :=
  if x1 = (-1 : Int32) then
    if x2 < (0 : Int32) then
      ((0 : Int32), u)
    else
      if (1 : Int32) < x2 then
        ((0 : Int32), u)
      else
        let r4 : Int32 := mp_M_isIn u x3 (0 : Int64) (1000000 : Int64)
        if r4 = (0 : Int32) then
          ((0 : Int32), u)
        else
          if x1 = (-1 : Int32) then
            if x2 = (0 : Int32) then
              let u32 : S4 := s4_sl u 0 x3
              if x2 = (1 : Int32) then
                let u36 : S4 := s4_sl u32 1 x3
                ((1 : Int32), u36)
              else
                let v34 : Int64 := (s4_l u32 1)
                let u35 : S4 := s4_sl u32 1 v34
                ((1 : Int32), u35)
            else
              let v26 : Int64 := (s4_l u 0)
              let u27 : S4 := s4_sl u 0 v26
              if x2 = (1 : Int32) then
                let u31 : S4 := s4_sl u27 1 x3
                ((1 : Int32), u31)
              else
                let v29 : Int64 := (s4_l u27 1)
                let u30 : S4 := s4_sl u27 1 v29
                ((1 : Int32), u30)
          else
            if x2 = (0 : Int32) then
              let u18 : S4 := s4_wb u 0 x1 x3
              if x2 = (1 : Int32) then
                let u24 : S4 := s4_wb u18 1 x1 x3
                ((1 : Int32), u24)
              else
                let u22 : S4 := s4_wb u18 1 x1 (s4_rb u18 1 x1)
                ((1 : Int32), u22)
            else
              let u10 : S4 := s4_wb u 0 x1 (s4_rb u 0 x1)
              if x2 = (1 : Int32) then
                let u16 : S4 := s4_wb u10 1 x1 x3
                ((1 : Int32), u16)
              else
                let u14 : S4 := s4_wb u10 1 x1 (s4_rb u10 1 x1)
                ((1 : Int32), u14)
  else
    let r37 : Int32 := mp_M_isStreet u x1
    if r37 = (0 : Int32) then
      ((0 : Int32), u)
    else
      if x2 < (0 : Int32) then
        ((0 : Int32), u)
      else
        if (1 : Int32) < x2 then
          ((0 : Int32), u)
        else
          let r41 : Int32 := mp_M_isIn u x3 (0 : Int64) (1000000 : Int64)
          if r41 = (0 : Int32) then
            ((0 : Int32), u)
          else
            if x1 = (-1 : Int32) then
              if x2 = (0 : Int32) then
                let u69 : S4 := s4_sl u 0 x3
                if x2 = (1 : Int32) then
                  let u73 : S4 := s4_sl u69 1 x3
                  ((1 : Int32), u73)
                else
                  let v71 : Int64 := (s4_l u69 1)
                  let u72 : S4 := s4_sl u69 1 v71
                  ((1 : Int32), u72)
              else
                let v63 : Int64 := (s4_l u 0)
                let u64 : S4 := s4_sl u 0 v63
                if x2 = (1 : Int32) then
                  let u68 : S4 := s4_sl u64 1 x3
                  ((1 : Int32), u68)
                else
                  let v66 : Int64 := (s4_l u64 1)
                  let u67 : S4 := s4_sl u64 1 v66
                  ((1 : Int32), u67)
            else
              if x2 = (0 : Int32) then
                let u55 : S4 := s4_wb u 0 x1 x3
                if x2 = (1 : Int32) then
                  let u61 : S4 := s4_wb u55 1 x1 x3
                  ((1 : Int32), u61)
                else
                  let u59 : S4 := s4_wb u55 1 x1 (s4_rb u55 1 x1)
                  ((1 : Int32), u59)
              else
                let u47 : S4 := s4_wb u 0 x1 (s4_rb u 0 x1)
                if x2 = (1 : Int32) then
                  let u53 : S4 := s4_wb u47 1 x1 x3
                  ((1 : Int32), u53)
                else
                  let u51 : S4 := s4_wb u47 1 x1 (s4_rb u47 1 x1)
                  ((1 : Int32), u51)
def mq_M_limit (u : S4) (x1 : Int32) (x2 : Int32) (x3 : Int64) : Prop :=
  ((x1 = (-1 : Int32) →
    (¬ x2 < (0 : Int32) →
      (¬ (1 : Int32) < x2 →
        let r4 : Int32 := mp_M_isIn u x3 (0 : Int64) (1000000 : Int64)
        (¬ r4 = (0 : Int32) →
          (¬ x1 = (-1 : Int32) →
            ((x2 = (0 : Int32) →
              vp_in x1 12 ∧
              let u18 : S4 := s4_wb u 0 x1 x3
              ((x2 = (1 : Int32) →
                vp_in x1 12) ∧ (¬ x2 = (1 : Int32) →
                vp_in x1 12 ∧
                vp_in x1 12))) ∧ (¬ x2 = (0 : Int32) →
              vp_in x1 12 ∧
              vp_in x1 12 ∧
              let u10 : S4 := s4_wb u 0 x1 (s4_rb u 0 x1)
              ((x2 = (1 : Int32) →
                vp_in x1 12) ∧ (¬ x2 = (1 : Int32) →
                vp_in x1 12 ∧
                vp_in x1 12))))))))) ∧ (¬ x1 = (-1 : Int32) →
    let r37 : Int32 := mp_M_isStreet u x1
    (¬ r37 = (0 : Int32) →
      (¬ x2 < (0 : Int32) →
        (¬ (1 : Int32) < x2 →
          let r41 : Int32 := mp_M_isIn u x3 (0 : Int64) (1000000 : Int64)
          (¬ r41 = (0 : Int32) →
            (¬ x1 = (-1 : Int32) →
              ((x2 = (0 : Int32) →
                vp_in x1 12 ∧
                let u55 : S4 := s4_wb u 0 x1 x3
                ((x2 = (1 : Int32) →
                  vp_in x1 12) ∧ (¬ x2 = (1 : Int32) →
                  vp_in x1 12 ∧
                  vp_in x1 12))) ∧ (¬ x2 = (0 : Int32) →
                vp_in x1 12 ∧
                vp_in x1 12 ∧
                let u47 : S4 := s4_wb u 0 x1 (s4_rb u 0 x1)
                ((x2 = (1 : Int32) →
                  vp_in x1 12) ∧ (¬ x2 = (1 : Int32) →
                  vp_in x1 12 ∧
                  vp_in x1 12)))))))))))
set_option maxHeartbeats 4000000 in
set_option maxRecDepth 100000 in
theorem mc_M_limit (l : Launch) (D : va_G) (a : Nat → Nat) (k3 : K3) (u : S4) (x1 : Int32) (x2 : Int32) (x3 : Int64) (hq : mq_M_limit u x1 x2 x3) : MI l D vwCl (ty3 k3) nestW (mC a k3) yX8_limit (kX8_limit :: tbG) rm_mM_limit [.ref (a 0), .int x1, .int x2, .long x3] u (mp_M_limit u x1 x2 x3) := by
  refine mkI (cc := cX8_limit) (maxL := 5) (ret := (some .boolean)) (by decide) rfl (Nat.le_of_ble_eq_true rfl) ?_
  intro p e s m below meth c A ls F hw hl
  generalize hav : ([.ref (a 0), .int x1, .int x2, .long x3] : List Value).toArray = av at F ⊢
  have hl : lv_has ls 5 [(0, .ref (a 0)), (1, .int x1), (2, .int x2), (3, .long x3)] := hl
  obtain ⟨hx, hb, hr, hml, hown, hts, hK, hN, hlocks, hA⟩ := id F
  have hown : s.vm.findClass RX8 = some m.cls := hown
  have htG : ∀ w ∈ tbG, w.before av s = true := fun w h => hts w (List.mem_cons_of_mem _ h)
  have k_107 := htG _ tb_618
  have f_32 := htG _ tb_523
  have f_36 := htG _ tb_524
  have f_113 := htG _ tb_525
  have f_117 := htG _ tb_526
  have hgo : ∀ P, mp_M_limit u x1 x2 x3 = P → ∀ (H : Heap) (locs : List Loc), wd D vwCl (mC a k3) A s.heap u H locs → W p l e rm_mM_limit s m av below meth c H locs 0 0 (QI below D vwCl (mC a k3) A av s P) (F0 m 0 ls []) := by
    intro P hP H locs hw
    refine lv_iload_n hx hb dX8_limit_0 rfl (lv_at hl 1 rfl) ?_
    refine lv_iconst (v := -1) hx hb dX8_limit_1 (by decide) ?_
    refine lv_icmp_eq (tgt := 13) hx hb dX8_limit_2 (by decide) (fun c1 => ?_) (fun c1 => ?_)
    · have hP := (if_pos c1).symm.trans hP
      have hq := hq.1 c1
      refine lv_iload_n hx hb dX8_limit_13 rfl (lv_at hl 2 rfl) ?_
      refine lv_if_lt (tgt := 33) hx hb dX8_limit_14 (by decide) (fun c2 => ?_) (fun c2 => ?_)
      · have hP := (if_pos c2).symm.trans hP
        refine lv_iconst (v := 0) hx hb dX8_limit_33 (by decide) ?_
        exact ret_z hx hb hr hlocks hw rfl dX8_limit_34 hP
      · have hP := (if_neg c2).symm.trans hP
        have hq := hq c2
        refine lv_iload_n hx hb dX8_limit_17 rfl (lv_at hl 2 rfl) ?_
        refine lv_iconst (v := 1) hx hb dX8_limit_18 (by decide) ?_
        refine lv_icmp_gt (tgt := 33) hx hb dX8_limit_19 (by decide) (fun c3 => ?_) (fun c3 => ?_)
        · have hP := (if_pos c3).symm.trans hP
          refine lv_iconst (v := 0) hx hb dX8_limit_33 (by decide) ?_
          exact ret_z hx hb hr hlocks hw rfl dX8_limit_34 hP
        · have hP := (if_neg c3).symm.trans hP
          have hq := hq c3
          refine lv_lload_n hx hb dX8_limit_22 rfl (lv_at hl 3 rfl) ?_
          refine lv_lconst (v := 0) hx hb dX8_limit_23 (by decide) ?_
          refine lv_ldc2 (v := 1000000) hx hb hown k_107 dX8_limit_24 ?_
          let r4 : Int32 := mp_M_isIn u x3 (0 : Int64) (1000000 : Int64)
          refine call_sir (rest := []) ⟨hx, hb, hml, hown, htG⟩ nestW_ok hK hN hA (mc_M_isIn l D a k3 u x3 (0 : Int64) (1000000 : Int64)) (cwS 3 htG (tb_S tb_605 tb_606 tb_28 tb_607) rfl rfl rfl (by decide +kernel) ⟨Nat.le_of_ble_eq_true rfl, Nat.le_of_ble_eq_true rfl⟩) hw rfl hl.1 rfl (Nat.le_of_ble_eq_true rfl) dX8_limit_27 ⟨Nat.zero_le _, Nat.zero_le _⟩ (fun H locs (hw : wd D vwCl (mC a k3) A s.heap u H locs) => ?_)
          refine lv_if_ne (tgt := 35) hx hb dX8_limit_30 (by decide) (fun c5 => ?_) (fun c5 => ?_)
          · have hP := (if_neg c5).symm.trans hP
            have hq := hq c5
            refine lv_iload_n hx hb dX8_limit_35 rfl (lv_at hl 1 rfl) ?_
            refine lv_iconst (v := -1) hx hb dX8_limit_36 (by decide) ?_
            refine lv_icmp_ne (tgt := 76) hx hb dX8_limit_37 (by decide) (fun c6 => ?_) (fun c6 => ?_)
            · have hP := (if_neg c6).symm.trans hP
              have hq := hq c6
              refine lv_aload_n hx hb dX8_limit_76 rfl (lv_at hl 0 rfl) ?_
              refine va_get (D := D) (ci := 8) (v := .ref (a 8)) (C := RX8) (T := TX8) (N := 28) hx hb htG in_8 hown hK hw.1 0 (mo_0 a k3 u) rfl 9 (by decide) f_32 (fun _ h9 => h9) rfl dX8_limit_77 ?_
              refine lv_iload_n hx hb dX8_limit_80 rfl (lv_at hl 1 rfl) ?_
              refine lv_iload_n hx hb dX8_limit_81 rfl (lv_at hl 2 rfl) ?_
              refine lv_if_ne (tgt := 89) hx hb dX8_limit_82 (by decide) (fun c7 => ?_) (fun c7 => ?_)
              · have hP := (if_neg c7).symm.trans hP
                have hq := hq.2 c7
                refine lv_aload_n hx hb dX8_limit_89 rfl (lv_at hl 0 rfl) ?_
                refine va_get (D := D) (ci := 8) (v := .ref (a 8)) (C := RX8) (T := TX8) (N := 28) hx hb htG in_8 hown hK hw.1 0 (mo_0 a k3 u) rfl 9 (by decide) f_32 (fun _ h9 => h9) rfl dX8_limit_90 ?_
                refine lv_iload_n hx hb dX8_limit_93 rfl (lv_at hl 1 rfl) ?_
                obtain ⟨h8, hq⟩ := hq
                refine y_lald (t0 := 1) hx hb hK hw 0 (mo_8 a k3 u) rfl h8 dX8_limit_94 ?_
                obtain ⟨h9, hq⟩ := hq
                let u10 : S4 := s4_wb u 0 x1 (s4_rb u 0 x1)
                refine y_last (t0 := 1) hx hb hK hw 0 (mo_8 a k3 u) (mq_8 a k3 u) rfl h9 dX8_limit_95 (fun H locs (hw : wd D vwCl (mC a k3) A s.heap u10 H locs) => ?_)
                refine lv_aload_n hx hb dX8_limit_96 rfl (lv_at hl 0 rfl) ?_
                refine va_get (D := D) (ci := 8) (v := .ref (a 9)) (C := RX8) (T := TX8) (N := 28) hx hb htG in_8 hown hK hw.1 0 (mo_0 a k3 u10) rfl 10 (by decide) f_36 (fun _ h9 => h9) rfl dX8_limit_97 ?_
                refine lv_iload_n hx hb dX8_limit_100 rfl (lv_at hl 1 rfl) ?_
                refine lv_iload_n hx hb dX8_limit_101 rfl (lv_at hl 2 rfl) ?_
                refine lv_iconst (v := 1) hx hb dX8_limit_102 (by decide) ?_
                refine lv_icmp_ne (tgt := 110) hx hb dX8_limit_103 (by decide) (fun c11 => ?_) (fun c11 => ?_)
                · have hP := (if_neg c11).symm.trans hP
                  have hq := hq.2 c11
                  refine lv_aload_n hx hb dX8_limit_110 rfl (lv_at hl 0 rfl) ?_
                  refine va_get (D := D) (ci := 8) (v := .ref (a 9)) (C := RX8) (T := TX8) (N := 28) hx hb htG in_8 hown hK hw.1 0 (mo_0 a k3 u10) rfl 10 (by decide) f_36 (fun _ h9 => h9) rfl dX8_limit_111 ?_
                  refine lv_iload_n hx hb dX8_limit_114 rfl (lv_at hl 1 rfl) ?_
                  obtain ⟨h12, hq⟩ := hq
                  refine y_lald (t0 := 1) hx hb hK hw 1 (mo_9 a k3 u10) rfl h12 dX8_limit_115 ?_
                  have h13 := hq
                  let u14 : S4 := s4_wb u10 1 x1 (s4_rb u10 1 x1)
                  refine y_last (t0 := 1) hx hb hK hw 1 (mo_9 a k3 u10) (mq_9 a k3 u10) rfl h13 dX8_limit_116 (fun H locs (hw : wd D vwCl (mC a k3) A s.heap u14 H locs) => ?_)
                  refine lv_iconst (v := 1) hx hb dX8_limit_117 (by decide) ?_
                  exact ret_z hx hb hr hlocks hw rfl dX8_limit_118 hP
                · have hP := (if_pos c11).symm.trans hP
                  have hq := hq.1 c11
                  refine lv_lload_n hx hb dX8_limit_106 rfl (lv_at hl 3 rfl) ?_
                  refine lv_goto (tgt := 116) hx hb dX8_limit_107 (by decide) ?_
                  have h15 := hq
                  let u16 : S4 := s4_wb u10 1 x1 x3
                  refine y_last (t0 := 1) hx hb hK hw 1 (mo_9 a k3 u10) (mq_9 a k3 u10) rfl h15 dX8_limit_116 (fun H locs (hw : wd D vwCl (mC a k3) A s.heap u16 H locs) => ?_)
                  refine lv_iconst (v := 1) hx hb dX8_limit_117 (by decide) ?_
                  exact ret_z hx hb hr hlocks hw rfl dX8_limit_118 hP
              · have hP := (if_pos c7).symm.trans hP
                have hq := hq.1 c7
                refine lv_lload_n hx hb dX8_limit_85 rfl (lv_at hl 3 rfl) ?_
                refine lv_goto (tgt := 95) hx hb dX8_limit_86 (by decide) ?_
                obtain ⟨h17, hq⟩ := hq
                let u18 : S4 := s4_wb u 0 x1 x3
                refine y_last (t0 := 1) hx hb hK hw 0 (mo_8 a k3 u) (mq_8 a k3 u) rfl h17 dX8_limit_95 (fun H locs (hw : wd D vwCl (mC a k3) A s.heap u18 H locs) => ?_)
                refine lv_aload_n hx hb dX8_limit_96 rfl (lv_at hl 0 rfl) ?_
                refine va_get (D := D) (ci := 8) (v := .ref (a 9)) (C := RX8) (T := TX8) (N := 28) hx hb htG in_8 hown hK hw.1 0 (mo_0 a k3 u18) rfl 10 (by decide) f_36 (fun _ h9 => h9) rfl dX8_limit_97 ?_
                refine lv_iload_n hx hb dX8_limit_100 rfl (lv_at hl 1 rfl) ?_
                refine lv_iload_n hx hb dX8_limit_101 rfl (lv_at hl 2 rfl) ?_
                refine lv_iconst (v := 1) hx hb dX8_limit_102 (by decide) ?_
                refine lv_icmp_ne (tgt := 110) hx hb dX8_limit_103 (by decide) (fun c19 => ?_) (fun c19 => ?_)
                · have hP := (if_neg c19).symm.trans hP
                  have hq := hq.2 c19
                  refine lv_aload_n hx hb dX8_limit_110 rfl (lv_at hl 0 rfl) ?_
                  refine va_get (D := D) (ci := 8) (v := .ref (a 9)) (C := RX8) (T := TX8) (N := 28) hx hb htG in_8 hown hK hw.1 0 (mo_0 a k3 u18) rfl 10 (by decide) f_36 (fun _ h9 => h9) rfl dX8_limit_111 ?_
                  refine lv_iload_n hx hb dX8_limit_114 rfl (lv_at hl 1 rfl) ?_
                  obtain ⟨h20, hq⟩ := hq
                  refine y_lald (t0 := 1) hx hb hK hw 1 (mo_9 a k3 u18) rfl h20 dX8_limit_115 ?_
                  have h21 := hq
                  let u22 : S4 := s4_wb u18 1 x1 (s4_rb u18 1 x1)
                  refine y_last (t0 := 1) hx hb hK hw 1 (mo_9 a k3 u18) (mq_9 a k3 u18) rfl h21 dX8_limit_116 (fun H locs (hw : wd D vwCl (mC a k3) A s.heap u22 H locs) => ?_)
                  refine lv_iconst (v := 1) hx hb dX8_limit_117 (by decide) ?_
                  exact ret_z hx hb hr hlocks hw rfl dX8_limit_118 hP
                · have hP := (if_pos c19).symm.trans hP
                  have hq := hq.1 c19
                  refine lv_lload_n hx hb dX8_limit_106 rfl (lv_at hl 3 rfl) ?_
                  refine lv_goto (tgt := 116) hx hb dX8_limit_107 (by decide) ?_
                  have h23 := hq
                  let u24 : S4 := s4_wb u18 1 x1 x3
                  refine y_last (t0 := 1) hx hb hK hw 1 (mo_9 a k3 u18) (mq_9 a k3 u18) rfl h23 dX8_limit_116 (fun H locs (hw : wd D vwCl (mC a k3) A s.heap u24 H locs) => ?_)
                  refine lv_iconst (v := 1) hx hb dX8_limit_117 (by decide) ?_
                  exact ret_z hx hb hr hlocks hw rfl dX8_limit_118 hP
            · have hP := (if_pos c6).symm.trans hP
              refine lv_aload_n hx hb dX8_limit_40 rfl (lv_at hl 0 rfl) ?_
              refine lv_iload_n hx hb dX8_limit_41 rfl (lv_at hl 2 rfl) ?_
              refine lv_if_ne (tgt := 49) hx hb dX8_limit_42 (by decide) (fun c25 => ?_) (fun c25 => ?_)
              · have hP := (if_neg c25).symm.trans hP
                refine lv_aload_n hx hb dX8_limit_49 rfl (lv_at hl 0 rfl) ?_
                refine va_get (D := D) (ci := 8) (v := .long (s4_l u 0)) (C := RX8) (T := TX8) (N := 28) hx hb htG in_8 hown hK hw.1 0 (mo_0 a k3 u) rfl 11 (by decide) f_113 (fun _ h9 => h9) rfl dX8_limit_50 ?_
                let v26 : Int64 := (s4_l u 0)
                let u27 : S4 := s4_sl u 0 v26
                refine y_putl hx hb htG in_8 tyX8 tyX8_ok nX8 hown hK hw 0 (mo_0 a k3 u) rfl 11 (by decide) f_113 (fun _ h9 => h9) rfl (by decide +kernel) (Nat.le_of_ble_eq_true rfl) (mt_l0 a k3 u v26) dX8_limit_53 (fun H locs (hw : wd D vwCl (mC a k3) A s.heap u27 H locs) => ?_)
                refine lv_aload_n hx hb dX8_limit_56 rfl (lv_at hl 0 rfl) ?_
                refine lv_iload_n hx hb dX8_limit_57 rfl (lv_at hl 2 rfl) ?_
                refine lv_iconst (v := 1) hx hb dX8_limit_58 (by decide) ?_
                refine lv_icmp_ne (tgt := 66) hx hb dX8_limit_59 (by decide) (fun c28 => ?_) (fun c28 => ?_)
                · have hP := (if_neg c28).symm.trans hP
                  refine lv_aload_n hx hb dX8_limit_66 rfl (lv_at hl 0 rfl) ?_
                  refine va_get (D := D) (ci := 8) (v := .long (s4_l u27 1)) (C := RX8) (T := TX8) (N := 28) hx hb htG in_8 hown hK hw.1 0 (mo_0 a k3 u27) rfl 12 (by decide) f_117 (fun _ h9 => h9) rfl dX8_limit_67 ?_
                  let v29 : Int64 := (s4_l u27 1)
                  let u30 : S4 := s4_sl u27 1 v29
                  refine y_putl hx hb htG in_8 tyX8 tyX8_ok nX8 hown hK hw 1 (mo_0 a k3 u27) rfl 12 (by decide) f_117 (fun _ h9 => h9) rfl (by decide +kernel) (Nat.le_of_ble_eq_true rfl) (mt_l1 a k3 u27 v29) dX8_limit_70 (fun H locs (hw : wd D vwCl (mC a k3) A s.heap u30 H locs) => ?_)
                  refine lv_goto (tgt := 117) hx hb dX8_limit_73 (by decide) ?_
                  refine lv_iconst (v := 1) hx hb dX8_limit_117 (by decide) ?_
                  exact ret_z hx hb hr hlocks hw rfl dX8_limit_118 hP
                · have hP := (if_pos c28).symm.trans hP
                  refine lv_lload_n hx hb dX8_limit_62 rfl (lv_at hl 3 rfl) ?_
                  refine lv_goto (tgt := 70) hx hb dX8_limit_63 (by decide) ?_
                  let u31 : S4 := s4_sl u27 1 x3
                  refine y_putl hx hb htG in_8 tyX8 tyX8_ok nX8 hown hK hw 1 (mo_0 a k3 u27) rfl 12 (by decide) f_117 (fun _ h9 => h9) rfl (by decide +kernel) (Nat.le_of_ble_eq_true rfl) (mt_l1 a k3 u27 x3) dX8_limit_70 (fun H locs (hw : wd D vwCl (mC a k3) A s.heap u31 H locs) => ?_)
                  refine lv_goto (tgt := 117) hx hb dX8_limit_73 (by decide) ?_
                  refine lv_iconst (v := 1) hx hb dX8_limit_117 (by decide) ?_
                  exact ret_z hx hb hr hlocks hw rfl dX8_limit_118 hP
              · have hP := (if_pos c25).symm.trans hP
                refine lv_lload_n hx hb dX8_limit_45 rfl (lv_at hl 3 rfl) ?_
                refine lv_goto (tgt := 53) hx hb dX8_limit_46 (by decide) ?_
                let u32 : S4 := s4_sl u 0 x3
                refine y_putl hx hb htG in_8 tyX8 tyX8_ok nX8 hown hK hw 0 (mo_0 a k3 u) rfl 11 (by decide) f_113 (fun _ h9 => h9) rfl (by decide +kernel) (Nat.le_of_ble_eq_true rfl) (mt_l0 a k3 u x3) dX8_limit_53 (fun H locs (hw : wd D vwCl (mC a k3) A s.heap u32 H locs) => ?_)
                refine lv_aload_n hx hb dX8_limit_56 rfl (lv_at hl 0 rfl) ?_
                refine lv_iload_n hx hb dX8_limit_57 rfl (lv_at hl 2 rfl) ?_
                refine lv_iconst (v := 1) hx hb dX8_limit_58 (by decide) ?_
                refine lv_icmp_ne (tgt := 66) hx hb dX8_limit_59 (by decide) (fun c33 => ?_) (fun c33 => ?_)
                · have hP := (if_neg c33).symm.trans hP
                  refine lv_aload_n hx hb dX8_limit_66 rfl (lv_at hl 0 rfl) ?_
                  refine va_get (D := D) (ci := 8) (v := .long (s4_l u32 1)) (C := RX8) (T := TX8) (N := 28) hx hb htG in_8 hown hK hw.1 0 (mo_0 a k3 u32) rfl 12 (by decide) f_117 (fun _ h9 => h9) rfl dX8_limit_67 ?_
                  let v34 : Int64 := (s4_l u32 1)
                  let u35 : S4 := s4_sl u32 1 v34
                  refine y_putl hx hb htG in_8 tyX8 tyX8_ok nX8 hown hK hw 1 (mo_0 a k3 u32) rfl 12 (by decide) f_117 (fun _ h9 => h9) rfl (by decide +kernel) (Nat.le_of_ble_eq_true rfl) (mt_l1 a k3 u32 v34) dX8_limit_70 (fun H locs (hw : wd D vwCl (mC a k3) A s.heap u35 H locs) => ?_)
                  refine lv_goto (tgt := 117) hx hb dX8_limit_73 (by decide) ?_
                  refine lv_iconst (v := 1) hx hb dX8_limit_117 (by decide) ?_
                  exact ret_z hx hb hr hlocks hw rfl dX8_limit_118 hP
                · have hP := (if_pos c33).symm.trans hP
                  refine lv_lload_n hx hb dX8_limit_62 rfl (lv_at hl 3 rfl) ?_
                  refine lv_goto (tgt := 70) hx hb dX8_limit_63 (by decide) ?_
                  let u36 : S4 := s4_sl u32 1 x3
                  refine y_putl hx hb htG in_8 tyX8 tyX8_ok nX8 hown hK hw 1 (mo_0 a k3 u32) rfl 12 (by decide) f_117 (fun _ h9 => h9) rfl (by decide +kernel) (Nat.le_of_ble_eq_true rfl) (mt_l1 a k3 u32 x3) dX8_limit_70 (fun H locs (hw : wd D vwCl (mC a k3) A s.heap u36 H locs) => ?_)
                  refine lv_goto (tgt := 117) hx hb dX8_limit_73 (by decide) ?_
                  refine lv_iconst (v := 1) hx hb dX8_limit_117 (by decide) ?_
                  exact ret_z hx hb hr hlocks hw rfl dX8_limit_118 hP
          · have hP := (if_pos c5).symm.trans hP
            refine lv_iconst (v := 0) hx hb dX8_limit_33 (by decide) ?_
            exact ret_z hx hb hr hlocks hw rfl dX8_limit_34 hP
    · have hP := (if_neg c1).symm.trans hP
      have hq := hq.2 c1
      refine lv_aload_n hx hb dX8_limit_5 rfl (lv_at hl 0 rfl) ?_
      refine lv_iload_n hx hb dX8_limit_6 rfl (lv_at hl 1 rfl) ?_
      let r37 : Int32 := mp_M_isStreet u x1
      refine call_vir (rest := []) ⟨hx, hb, hml, hown, htG⟩ nestW_ok hK hN hA (mc_M_isStreet l D a k3 u x1) (cwV 1 htG (tb_V tb_624 tb_626 tb_10 tb_28 tb_627) rfl rfl rfl (by decide +kernel) ⟨Nat.le_of_ble_eq_true rfl, Nat.le_of_ble_eq_true rfl⟩) (ci := 8) rfl (mo_0 a k3 u) rfl hw rfl hl.1 rfl (Nat.le_of_ble_eq_true rfl) dX8_limit_7 ⟨Nat.zero_le _, Nat.zero_le _⟩ (fun H locs (hw : wd D vwCl (mC a k3) A s.heap u H locs) => ?_)
      refine lv_if_eq (tgt := 33) hx hb dX8_limit_10 (by decide) (fun c38 => ?_) (fun c38 => ?_)
      · have hP := (if_pos c38).symm.trans hP
        refine lv_iconst (v := 0) hx hb dX8_limit_33 (by decide) ?_
        exact ret_z hx hb hr hlocks hw rfl dX8_limit_34 hP
      · have hP := (if_neg c38).symm.trans hP
        have hq := hq c38
        refine lv_iload_n hx hb dX8_limit_13 rfl (lv_at hl 2 rfl) ?_
        refine lv_if_lt (tgt := 33) hx hb dX8_limit_14 (by decide) (fun c39 => ?_) (fun c39 => ?_)
        · have hP := (if_pos c39).symm.trans hP
          refine lv_iconst (v := 0) hx hb dX8_limit_33 (by decide) ?_
          exact ret_z hx hb hr hlocks hw rfl dX8_limit_34 hP
        · have hP := (if_neg c39).symm.trans hP
          have hq := hq c39
          refine lv_iload_n hx hb dX8_limit_17 rfl (lv_at hl 2 rfl) ?_
          refine lv_iconst (v := 1) hx hb dX8_limit_18 (by decide) ?_
          refine lv_icmp_gt (tgt := 33) hx hb dX8_limit_19 (by decide) (fun c40 => ?_) (fun c40 => ?_)
          · have hP := (if_pos c40).symm.trans hP
            refine lv_iconst (v := 0) hx hb dX8_limit_33 (by decide) ?_
            exact ret_z hx hb hr hlocks hw rfl dX8_limit_34 hP
          · have hP := (if_neg c40).symm.trans hP
            have hq := hq c40
            refine lv_lload_n hx hb dX8_limit_22 rfl (lv_at hl 3 rfl) ?_
            refine lv_lconst (v := 0) hx hb dX8_limit_23 (by decide) ?_
            refine lv_ldc2 (v := 1000000) hx hb hown k_107 dX8_limit_24 ?_
            let r41 : Int32 := mp_M_isIn u x3 (0 : Int64) (1000000 : Int64)
            refine call_sir (rest := []) ⟨hx, hb, hml, hown, htG⟩ nestW_ok hK hN hA (mc_M_isIn l D a k3 u x3 (0 : Int64) (1000000 : Int64)) (cwS 3 htG (tb_S tb_605 tb_606 tb_28 tb_607) rfl rfl rfl (by decide +kernel) ⟨Nat.le_of_ble_eq_true rfl, Nat.le_of_ble_eq_true rfl⟩) hw rfl hl.1 rfl (Nat.le_of_ble_eq_true rfl) dX8_limit_27 ⟨Nat.zero_le _, Nat.zero_le _⟩ (fun H locs (hw : wd D vwCl (mC a k3) A s.heap u H locs) => ?_)
            refine lv_if_ne (tgt := 35) hx hb dX8_limit_30 (by decide) (fun c42 => ?_) (fun c42 => ?_)
            · have hP := (if_neg c42).symm.trans hP
              have hq := hq c42
              refine lv_iload_n hx hb dX8_limit_35 rfl (lv_at hl 1 rfl) ?_
              refine lv_iconst (v := -1) hx hb dX8_limit_36 (by decide) ?_
              refine lv_icmp_ne (tgt := 76) hx hb dX8_limit_37 (by decide) (fun c43 => ?_) (fun c43 => ?_)
              · have hP := (if_neg c43).symm.trans hP
                have hq := hq c43
                refine lv_aload_n hx hb dX8_limit_76 rfl (lv_at hl 0 rfl) ?_
                refine va_get (D := D) (ci := 8) (v := .ref (a 8)) (C := RX8) (T := TX8) (N := 28) hx hb htG in_8 hown hK hw.1 0 (mo_0 a k3 u) rfl 9 (by decide) f_32 (fun _ h9 => h9) rfl dX8_limit_77 ?_
                refine lv_iload_n hx hb dX8_limit_80 rfl (lv_at hl 1 rfl) ?_
                refine lv_iload_n hx hb dX8_limit_81 rfl (lv_at hl 2 rfl) ?_
                refine lv_if_ne (tgt := 89) hx hb dX8_limit_82 (by decide) (fun c44 => ?_) (fun c44 => ?_)
                · have hP := (if_neg c44).symm.trans hP
                  have hq := hq.2 c44
                  refine lv_aload_n hx hb dX8_limit_89 rfl (lv_at hl 0 rfl) ?_
                  refine va_get (D := D) (ci := 8) (v := .ref (a 8)) (C := RX8) (T := TX8) (N := 28) hx hb htG in_8 hown hK hw.1 0 (mo_0 a k3 u) rfl 9 (by decide) f_32 (fun _ h9 => h9) rfl dX8_limit_90 ?_
                  refine lv_iload_n hx hb dX8_limit_93 rfl (lv_at hl 1 rfl) ?_
                  obtain ⟨h45, hq⟩ := hq
                  refine y_lald (t0 := 1) hx hb hK hw 0 (mo_8 a k3 u) rfl h45 dX8_limit_94 ?_
                  obtain ⟨h46, hq⟩ := hq
                  let u47 : S4 := s4_wb u 0 x1 (s4_rb u 0 x1)
                  refine y_last (t0 := 1) hx hb hK hw 0 (mo_8 a k3 u) (mq_8 a k3 u) rfl h46 dX8_limit_95 (fun H locs (hw : wd D vwCl (mC a k3) A s.heap u47 H locs) => ?_)
                  refine lv_aload_n hx hb dX8_limit_96 rfl (lv_at hl 0 rfl) ?_
                  refine va_get (D := D) (ci := 8) (v := .ref (a 9)) (C := RX8) (T := TX8) (N := 28) hx hb htG in_8 hown hK hw.1 0 (mo_0 a k3 u47) rfl 10 (by decide) f_36 (fun _ h9 => h9) rfl dX8_limit_97 ?_
                  refine lv_iload_n hx hb dX8_limit_100 rfl (lv_at hl 1 rfl) ?_
                  refine lv_iload_n hx hb dX8_limit_101 rfl (lv_at hl 2 rfl) ?_
                  refine lv_iconst (v := 1) hx hb dX8_limit_102 (by decide) ?_
                  refine lv_icmp_ne (tgt := 110) hx hb dX8_limit_103 (by decide) (fun c48 => ?_) (fun c48 => ?_)
                  · have hP := (if_neg c48).symm.trans hP
                    have hq := hq.2 c48
                    refine lv_aload_n hx hb dX8_limit_110 rfl (lv_at hl 0 rfl) ?_
                    refine va_get (D := D) (ci := 8) (v := .ref (a 9)) (C := RX8) (T := TX8) (N := 28) hx hb htG in_8 hown hK hw.1 0 (mo_0 a k3 u47) rfl 10 (by decide) f_36 (fun _ h9 => h9) rfl dX8_limit_111 ?_
                    refine lv_iload_n hx hb dX8_limit_114 rfl (lv_at hl 1 rfl) ?_
                    obtain ⟨h49, hq⟩ := hq
                    refine y_lald (t0 := 1) hx hb hK hw 1 (mo_9 a k3 u47) rfl h49 dX8_limit_115 ?_
                    have h50 := hq
                    let u51 : S4 := s4_wb u47 1 x1 (s4_rb u47 1 x1)
                    refine y_last (t0 := 1) hx hb hK hw 1 (mo_9 a k3 u47) (mq_9 a k3 u47) rfl h50 dX8_limit_116 (fun H locs (hw : wd D vwCl (mC a k3) A s.heap u51 H locs) => ?_)
                    refine lv_iconst (v := 1) hx hb dX8_limit_117 (by decide) ?_
                    exact ret_z hx hb hr hlocks hw rfl dX8_limit_118 hP
                  · have hP := (if_pos c48).symm.trans hP
                    have hq := hq.1 c48
                    refine lv_lload_n hx hb dX8_limit_106 rfl (lv_at hl 3 rfl) ?_
                    refine lv_goto (tgt := 116) hx hb dX8_limit_107 (by decide) ?_
                    have h52 := hq
                    let u53 : S4 := s4_wb u47 1 x1 x3
                    refine y_last (t0 := 1) hx hb hK hw 1 (mo_9 a k3 u47) (mq_9 a k3 u47) rfl h52 dX8_limit_116 (fun H locs (hw : wd D vwCl (mC a k3) A s.heap u53 H locs) => ?_)
                    refine lv_iconst (v := 1) hx hb dX8_limit_117 (by decide) ?_
                    exact ret_z hx hb hr hlocks hw rfl dX8_limit_118 hP
                · have hP := (if_pos c44).symm.trans hP
                  have hq := hq.1 c44
                  refine lv_lload_n hx hb dX8_limit_85 rfl (lv_at hl 3 rfl) ?_
                  refine lv_goto (tgt := 95) hx hb dX8_limit_86 (by decide) ?_
                  obtain ⟨h54, hq⟩ := hq
                  let u55 : S4 := s4_wb u 0 x1 x3
                  refine y_last (t0 := 1) hx hb hK hw 0 (mo_8 a k3 u) (mq_8 a k3 u) rfl h54 dX8_limit_95 (fun H locs (hw : wd D vwCl (mC a k3) A s.heap u55 H locs) => ?_)
                  refine lv_aload_n hx hb dX8_limit_96 rfl (lv_at hl 0 rfl) ?_
                  refine va_get (D := D) (ci := 8) (v := .ref (a 9)) (C := RX8) (T := TX8) (N := 28) hx hb htG in_8 hown hK hw.1 0 (mo_0 a k3 u55) rfl 10 (by decide) f_36 (fun _ h9 => h9) rfl dX8_limit_97 ?_
                  refine lv_iload_n hx hb dX8_limit_100 rfl (lv_at hl 1 rfl) ?_
                  refine lv_iload_n hx hb dX8_limit_101 rfl (lv_at hl 2 rfl) ?_
                  refine lv_iconst (v := 1) hx hb dX8_limit_102 (by decide) ?_
                  refine lv_icmp_ne (tgt := 110) hx hb dX8_limit_103 (by decide) (fun c56 => ?_) (fun c56 => ?_)
                  · have hP := (if_neg c56).symm.trans hP
                    have hq := hq.2 c56
                    refine lv_aload_n hx hb dX8_limit_110 rfl (lv_at hl 0 rfl) ?_
                    refine va_get (D := D) (ci := 8) (v := .ref (a 9)) (C := RX8) (T := TX8) (N := 28) hx hb htG in_8 hown hK hw.1 0 (mo_0 a k3 u55) rfl 10 (by decide) f_36 (fun _ h9 => h9) rfl dX8_limit_111 ?_
                    refine lv_iload_n hx hb dX8_limit_114 rfl (lv_at hl 1 rfl) ?_
                    obtain ⟨h57, hq⟩ := hq
                    refine y_lald (t0 := 1) hx hb hK hw 1 (mo_9 a k3 u55) rfl h57 dX8_limit_115 ?_
                    have h58 := hq
                    let u59 : S4 := s4_wb u55 1 x1 (s4_rb u55 1 x1)
                    refine y_last (t0 := 1) hx hb hK hw 1 (mo_9 a k3 u55) (mq_9 a k3 u55) rfl h58 dX8_limit_116 (fun H locs (hw : wd D vwCl (mC a k3) A s.heap u59 H locs) => ?_)
                    refine lv_iconst (v := 1) hx hb dX8_limit_117 (by decide) ?_
                    exact ret_z hx hb hr hlocks hw rfl dX8_limit_118 hP
                  · have hP := (if_pos c56).symm.trans hP
                    have hq := hq.1 c56
                    refine lv_lload_n hx hb dX8_limit_106 rfl (lv_at hl 3 rfl) ?_
                    refine lv_goto (tgt := 116) hx hb dX8_limit_107 (by decide) ?_
                    have h60 := hq
                    let u61 : S4 := s4_wb u55 1 x1 x3
                    refine y_last (t0 := 1) hx hb hK hw 1 (mo_9 a k3 u55) (mq_9 a k3 u55) rfl h60 dX8_limit_116 (fun H locs (hw : wd D vwCl (mC a k3) A s.heap u61 H locs) => ?_)
                    refine lv_iconst (v := 1) hx hb dX8_limit_117 (by decide) ?_
                    exact ret_z hx hb hr hlocks hw rfl dX8_limit_118 hP
              · have hP := (if_pos c43).symm.trans hP
                refine lv_aload_n hx hb dX8_limit_40 rfl (lv_at hl 0 rfl) ?_
                refine lv_iload_n hx hb dX8_limit_41 rfl (lv_at hl 2 rfl) ?_
                refine lv_if_ne (tgt := 49) hx hb dX8_limit_42 (by decide) (fun c62 => ?_) (fun c62 => ?_)
                · have hP := (if_neg c62).symm.trans hP
                  refine lv_aload_n hx hb dX8_limit_49 rfl (lv_at hl 0 rfl) ?_
                  refine va_get (D := D) (ci := 8) (v := .long (s4_l u 0)) (C := RX8) (T := TX8) (N := 28) hx hb htG in_8 hown hK hw.1 0 (mo_0 a k3 u) rfl 11 (by decide) f_113 (fun _ h9 => h9) rfl dX8_limit_50 ?_
                  let v63 : Int64 := (s4_l u 0)
                  let u64 : S4 := s4_sl u 0 v63
                  refine y_putl hx hb htG in_8 tyX8 tyX8_ok nX8 hown hK hw 0 (mo_0 a k3 u) rfl 11 (by decide) f_113 (fun _ h9 => h9) rfl (by decide +kernel) (Nat.le_of_ble_eq_true rfl) (mt_l0 a k3 u v63) dX8_limit_53 (fun H locs (hw : wd D vwCl (mC a k3) A s.heap u64 H locs) => ?_)
                  refine lv_aload_n hx hb dX8_limit_56 rfl (lv_at hl 0 rfl) ?_
                  refine lv_iload_n hx hb dX8_limit_57 rfl (lv_at hl 2 rfl) ?_
                  refine lv_iconst (v := 1) hx hb dX8_limit_58 (by decide) ?_
                  refine lv_icmp_ne (tgt := 66) hx hb dX8_limit_59 (by decide) (fun c65 => ?_) (fun c65 => ?_)
                  · have hP := (if_neg c65).symm.trans hP
                    refine lv_aload_n hx hb dX8_limit_66 rfl (lv_at hl 0 rfl) ?_
                    refine va_get (D := D) (ci := 8) (v := .long (s4_l u64 1)) (C := RX8) (T := TX8) (N := 28) hx hb htG in_8 hown hK hw.1 0 (mo_0 a k3 u64) rfl 12 (by decide) f_117 (fun _ h9 => h9) rfl dX8_limit_67 ?_
                    let v66 : Int64 := (s4_l u64 1)
                    let u67 : S4 := s4_sl u64 1 v66
                    refine y_putl hx hb htG in_8 tyX8 tyX8_ok nX8 hown hK hw 1 (mo_0 a k3 u64) rfl 12 (by decide) f_117 (fun _ h9 => h9) rfl (by decide +kernel) (Nat.le_of_ble_eq_true rfl) (mt_l1 a k3 u64 v66) dX8_limit_70 (fun H locs (hw : wd D vwCl (mC a k3) A s.heap u67 H locs) => ?_)
                    refine lv_goto (tgt := 117) hx hb dX8_limit_73 (by decide) ?_
                    refine lv_iconst (v := 1) hx hb dX8_limit_117 (by decide) ?_
                    exact ret_z hx hb hr hlocks hw rfl dX8_limit_118 hP
                  · have hP := (if_pos c65).symm.trans hP
                    refine lv_lload_n hx hb dX8_limit_62 rfl (lv_at hl 3 rfl) ?_
                    refine lv_goto (tgt := 70) hx hb dX8_limit_63 (by decide) ?_
                    let u68 : S4 := s4_sl u64 1 x3
                    refine y_putl hx hb htG in_8 tyX8 tyX8_ok nX8 hown hK hw 1 (mo_0 a k3 u64) rfl 12 (by decide) f_117 (fun _ h9 => h9) rfl (by decide +kernel) (Nat.le_of_ble_eq_true rfl) (mt_l1 a k3 u64 x3) dX8_limit_70 (fun H locs (hw : wd D vwCl (mC a k3) A s.heap u68 H locs) => ?_)
                    refine lv_goto (tgt := 117) hx hb dX8_limit_73 (by decide) ?_
                    refine lv_iconst (v := 1) hx hb dX8_limit_117 (by decide) ?_
                    exact ret_z hx hb hr hlocks hw rfl dX8_limit_118 hP
                · have hP := (if_pos c62).symm.trans hP
                  refine lv_lload_n hx hb dX8_limit_45 rfl (lv_at hl 3 rfl) ?_
                  refine lv_goto (tgt := 53) hx hb dX8_limit_46 (by decide) ?_
                  let u69 : S4 := s4_sl u 0 x3
                  refine y_putl hx hb htG in_8 tyX8 tyX8_ok nX8 hown hK hw 0 (mo_0 a k3 u) rfl 11 (by decide) f_113 (fun _ h9 => h9) rfl (by decide +kernel) (Nat.le_of_ble_eq_true rfl) (mt_l0 a k3 u x3) dX8_limit_53 (fun H locs (hw : wd D vwCl (mC a k3) A s.heap u69 H locs) => ?_)
                  refine lv_aload_n hx hb dX8_limit_56 rfl (lv_at hl 0 rfl) ?_
                  refine lv_iload_n hx hb dX8_limit_57 rfl (lv_at hl 2 rfl) ?_
                  refine lv_iconst (v := 1) hx hb dX8_limit_58 (by decide) ?_
                  refine lv_icmp_ne (tgt := 66) hx hb dX8_limit_59 (by decide) (fun c70 => ?_) (fun c70 => ?_)
                  · have hP := (if_neg c70).symm.trans hP
                    refine lv_aload_n hx hb dX8_limit_66 rfl (lv_at hl 0 rfl) ?_
                    refine va_get (D := D) (ci := 8) (v := .long (s4_l u69 1)) (C := RX8) (T := TX8) (N := 28) hx hb htG in_8 hown hK hw.1 0 (mo_0 a k3 u69) rfl 12 (by decide) f_117 (fun _ h9 => h9) rfl dX8_limit_67 ?_
                    let v71 : Int64 := (s4_l u69 1)
                    let u72 : S4 := s4_sl u69 1 v71
                    refine y_putl hx hb htG in_8 tyX8 tyX8_ok nX8 hown hK hw 1 (mo_0 a k3 u69) rfl 12 (by decide) f_117 (fun _ h9 => h9) rfl (by decide +kernel) (Nat.le_of_ble_eq_true rfl) (mt_l1 a k3 u69 v71) dX8_limit_70 (fun H locs (hw : wd D vwCl (mC a k3) A s.heap u72 H locs) => ?_)
                    refine lv_goto (tgt := 117) hx hb dX8_limit_73 (by decide) ?_
                    refine lv_iconst (v := 1) hx hb dX8_limit_117 (by decide) ?_
                    exact ret_z hx hb hr hlocks hw rfl dX8_limit_118 hP
                  · have hP := (if_pos c70).symm.trans hP
                    refine lv_lload_n hx hb dX8_limit_62 rfl (lv_at hl 3 rfl) ?_
                    refine lv_goto (tgt := 70) hx hb dX8_limit_63 (by decide) ?_
                    let u73 : S4 := s4_sl u69 1 x3
                    refine y_putl hx hb htG in_8 tyX8 tyX8_ok nX8 hown hK hw 1 (mo_0 a k3 u69) rfl 12 (by decide) f_117 (fun _ h9 => h9) rfl (by decide +kernel) (Nat.le_of_ble_eq_true rfl) (mt_l1 a k3 u69 x3) dX8_limit_70 (fun H locs (hw : wd D vwCl (mC a k3) A s.heap u73 H locs) => ?_)
                    refine lv_goto (tgt := 117) hx hb dX8_limit_73 (by decide) ?_
                    refine lv_iconst (v := 1) hx hb dX8_limit_117 (by decide) ?_
                    exact ret_z hx hb hr hlocks hw rfl dX8_limit_118 hP
            · have hP := (if_pos c42).symm.trans hP
              refine lv_iconst (v := 0) hx hb dX8_limit_33 (by decide) ?_
              exact ret_z hx hb hr hlocks hw rfl dX8_limit_34 hP
  exact hgo _ rfl s.heap [] hw
theorem dX8_deadEnd_0 : decode cX8_deadEnd 0 = .ok (.aload_n 0, 1) := by decide +kernel
theorem dX8_deadEnd_1 : decode cX8_deadEnd 1 = .ok (.iload_n 1, 1) := by decide +kernel
theorem dX8_deadEnd_2 : decode cX8_deadEnd 2 = .ok (.invokevirtual 100, 3) := by decide +kernel
theorem dX8_deadEnd_5 : decode cX8_deadEnd 5 = .ok (.ifCond .ne 5, 3) := by decide +kernel
theorem dX8_deadEnd_8 : decode cX8_deadEnd 8 = .ok (.iconst 0, 1) := by decide +kernel
theorem dX8_deadEnd_9 : decode cX8_deadEnd 9 = .ok (.ireturn, 1) := by decide +kernel
theorem dX8_deadEnd_10 : decode cX8_deadEnd 10 = .ok (.aload_n 0, 1) := by decide +kernel
theorem dX8_deadEnd_11 : decode cX8_deadEnd 11 = .ok (.getfield 16, 3) := by decide +kernel
theorem dX8_deadEnd_14 : decode cX8_deadEnd 14 = .ok (.iload_n 1, 1) := by decide +kernel
theorem dX8_deadEnd_15 : decode cX8_deadEnd 15 = .ok (.iload_n 2, 1) := by decide +kernel
theorem dX8_deadEnd_16 : decode cX8_deadEnd 16 = .ok (.bastore, 1) := by decide +kernel
theorem dX8_deadEnd_17 : decode cX8_deadEnd 17 = .ok (.iconst 1, 1) := by decide +kernel
theorem dX8_deadEnd_18 : decode cX8_deadEnd 18 = .ok (.ireturn, 1) := by decide +kernel
abbrev rm_mM_deadEnd : Room := { frames := 1, cells := 0, slots := 0, locals := 21 }
def mp_M_deadEnd (u : S4) (x1 : Int32) (x2 : Int32) : Int32 × S4 :=
  let r1 : Int32 := mp_M_isNode u x1
  if r1 = (0 : Int32) then
    ((0 : Int32), u)
  else
    let u4 : S4 := s4_wz u 2 x1 x2
    ((1 : Int32), u4)
def mq_M_deadEnd (u : S4) (x1 : Int32) (x2 : Int32) : Prop :=
  let r1 : Int32 := mp_M_isNode u x1
  (¬ r1 = (0 : Int32) →
    vp_in x1 8)
set_option maxHeartbeats 4000000 in
set_option maxRecDepth 100000 in
theorem mc_M_deadEnd (l : Launch) (D : va_G) (a : Nat → Nat) (k3 : K3) (u : S4) (x1 : Int32) (x2 : Int32) (hq : mq_M_deadEnd u x1 x2) : MI l D vwCl (ty3 k3) nestW (mC a k3) yX8_deadEnd (kX8_deadEnd :: tbG) rm_mM_deadEnd [.ref (a 0), .int x1, .int x2] u (mp_M_deadEnd u x1 x2) := by
  refine mkI (cc := cX8_deadEnd) (maxL := 3) (ret := (some .boolean)) (by decide) rfl (Nat.le_of_ble_eq_true rfl) ?_
  intro p e s m below meth c A ls F hw hl
  generalize hav : ([.ref (a 0), .int x1, .int x2] : List Value).toArray = av at F ⊢
  have hl : lv_has ls 3 [(0, .ref (a 0)), (1, .int x1), (2, .int x2)] := hl
  obtain ⟨hx, hb, hr, hml, hown, hts, hK, hN, hlocks, hA⟩ := id F
  have hown : s.vm.findClass RX8 = some m.cls := hown
  have htG : ∀ w ∈ tbG, w.before av s = true := fun w h => hts w (List.mem_cons_of_mem _ h)
  have f_16 := htG _ tb_517
  have hgo : ∀ P, mp_M_deadEnd u x1 x2 = P → ∀ (H : Heap) (locs : List Loc), wd D vwCl (mC a k3) A s.heap u H locs → W p l e rm_mM_deadEnd s m av below meth c H locs 0 0 (QI below D vwCl (mC a k3) A av s P) (F0 m 0 ls []) := by
    intro P hP H locs hw
    refine lv_aload_n hx hb dX8_deadEnd_0 rfl (lv_at hl 0 rfl) ?_
    refine lv_iload_n hx hb dX8_deadEnd_1 rfl (lv_at hl 1 rfl) ?_
    let r1 : Int32 := mp_M_isNode u x1
    refine call_vir (rest := []) ⟨hx, hb, hml, hown, htG⟩ nestW_ok hK hN hA (mc_M_isNode l D a k3 u x1) (cwV 1 htG (tb_V tb_612 tb_614 tb_9 tb_28 tb_615) rfl rfl rfl (by decide +kernel) ⟨Nat.le_of_ble_eq_true rfl, Nat.le_of_ble_eq_true rfl⟩) (ci := 8) rfl (mo_0 a k3 u) rfl hw rfl hl.1 rfl (Nat.le_of_ble_eq_true rfl) dX8_deadEnd_2 ⟨Nat.zero_le _, Nat.zero_le _⟩ (fun H locs (hw : wd D vwCl (mC a k3) A s.heap u H locs) => ?_)
    refine lv_if_ne (tgt := 10) hx hb dX8_deadEnd_5 (by decide) (fun c2 => ?_) (fun c2 => ?_)
    · have hP := (if_neg c2).symm.trans hP
      have hq := hq c2
      refine lv_aload_n hx hb dX8_deadEnd_10 rfl (lv_at hl 0 rfl) ?_
      refine va_get (D := D) (ci := 8) (v := .ref (a 3)) (C := RX8) (T := TX8) (N := 28) hx hb htG in_8 hown hK hw.1 0 (mo_0 a k3 u) rfl 3 (by decide) f_16 (fun _ h9 => h9) rfl dX8_deadEnd_11 ?_
      refine lv_iload_n hx hb dX8_deadEnd_14 rfl (lv_at hl 1 rfl) ?_
      refine lv_iload_n hx hb dX8_deadEnd_15 rfl (lv_at hl 2 rfl) ?_
      have h3 := hq
      let u4 : S4 := s4_wz u 2 x1 x2
      refine y_zast (t0 := 2) hx hb hK hw 2 (mo_3 a k3 u) (mq_3 a k3 u) rfl h3 dX8_deadEnd_16 (fun H locs (hw : wd D vwCl (mC a k3) A s.heap u4 H locs) => ?_)
      refine lv_iconst (v := 1) hx hb dX8_deadEnd_17 (by decide) ?_
      exact ret_z hx hb hr hlocks hw rfl dX8_deadEnd_18 hP
    · have hP := (if_pos c2).symm.trans hP
      refine lv_iconst (v := 0) hx hb dX8_deadEnd_8 (by decide) ?_
      exact ret_z hx hb hr hlocks hw rfl dX8_deadEnd_9 hP
  exact hgo _ rfl s.heap [] hw
theorem dX8_close_0 : decode cX8_close 0 = .ok (.aload_n 0, 1) := by decide +kernel
theorem dX8_close_1 : decode cX8_close 1 = .ok (.iload_n 1, 1) := by decide +kernel
theorem dX8_close_2 : decode cX8_close 2 = .ok (.invokevirtual 88, 3) := by decide +kernel
theorem dX8_close_5 : decode cX8_close 5 = .ok (.ifCond .eq 14, 3) := by decide +kernel
theorem dX8_close_8 : decode cX8_close 8 = .ok (.iload_n 2, 1) := by decide +kernel
theorem dX8_close_9 : decode cX8_close 9 = .ok (.ifCond .lt 10, 3) := by decide +kernel
theorem dX8_close_12 : decode cX8_close 12 = .ok (.iload_n 2, 1) := by decide +kernel
theorem dX8_close_13 : decode cX8_close 13 = .ok (.sipush 366, 3) := by decide +kernel
theorem dX8_close_16 : decode cX8_close 16 = .ok (.if_icmp .lt 5, 3) := by decide +kernel
theorem dX8_close_19 : decode cX8_close 19 = .ok (.iconst 0, 1) := by decide +kernel
theorem dX8_close_20 : decode cX8_close 20 = .ok (.ireturn, 1) := by decide +kernel
theorem dX8_close_21 : decode cX8_close 21 = .ok (.aload_n 0, 1) := by decide +kernel
theorem dX8_close_22 : decode cX8_close 22 = .ok (.getfield 45, 3) := by decide +kernel
theorem dX8_close_25 : decode cX8_close 25 = .ok (.sipush 366, 3) := by decide +kernel
theorem dX8_close_28 : decode cX8_close 28 = .ok (.iload_n 1, 1) := by decide +kernel
theorem dX8_close_29 : decode cX8_close 29 = .ok (.imul, 1) := by decide +kernel
theorem dX8_close_30 : decode cX8_close 30 = .ok (.iload_n 2, 1) := by decide +kernel
theorem dX8_close_31 : decode cX8_close 31 = .ok (.iadd, 1) := by decide +kernel
theorem dX8_close_32 : decode cX8_close 32 = .ok (.iload_n 3, 1) := by decide +kernel
theorem dX8_close_33 : decode cX8_close 33 = .ok (.bastore, 1) := by decide +kernel
theorem dX8_close_34 : decode cX8_close 34 = .ok (.iconst 1, 1) := by decide +kernel
theorem dX8_close_35 : decode cX8_close 35 = .ok (.ireturn, 1) := by decide +kernel
abbrev rm_mM_close : Room := { frames := 1, cells := 0, slots := 0, locals := 21 }
def mp_M_close (u : S4) (x1 : Int32) (x2 : Int32) (x3 : Int32) : Int32 × S4 :=
  let r1 : Int32 := mp_M_isStreet u x1
  if r1 = (0 : Int32) then
    ((0 : Int32), u)
  else
    if x2 < (0 : Int32) then
      ((0 : Int32), u)
    else
      if x2 < (366 : Int32) then
        let u6 : S4 := s4_wz u 9 (((366 : Int32) * x1) + x2) x3
        ((1 : Int32), u6)
      else
        ((0 : Int32), u)
def mq_M_close (u : S4) (x1 : Int32) (x2 : Int32) (x3 : Int32) : Prop :=
  let r1 : Int32 := mp_M_isStreet u x1
  (¬ r1 = (0 : Int32) →
    (¬ x2 < (0 : Int32) →
      (x2 < (366 : Int32) →
        vp_in (((366 : Int32) * x1) + x2) 4392)))
set_option maxHeartbeats 4000000 in
set_option maxRecDepth 100000 in
theorem mc_M_close (l : Launch) (D : va_G) (a : Nat → Nat) (k3 : K3) (u : S4) (x1 : Int32) (x2 : Int32) (x3 : Int32) (hq : mq_M_close u x1 x2 x3) : MI l D vwCl (ty3 k3) nestW (mC a k3) yX8_close (kX8_close :: tbG) rm_mM_close [.ref (a 0), .int x1, .int x2, .int x3] u (mp_M_close u x1 x2 x3) := by
  refine mkI (cc := cX8_close) (maxL := 4) (ret := (some .boolean)) (by decide) rfl (Nat.le_of_ble_eq_true rfl) ?_
  intro p e s m below meth c A ls F hw hl
  generalize hav : ([.ref (a 0), .int x1, .int x2, .int x3] : List Value).toArray = av at F ⊢
  have hl : lv_has ls 4 [(0, .ref (a 0)), (1, .int x1), (2, .int x2), (3, .int x3)] := hl
  obtain ⟨hx, hb, hr, hml, hown, hts, hK, hN, hlocks, hA⟩ := id F
  have hown : s.vm.findClass RX8 = some m.cls := hown
  have htG : ∀ w ∈ tbG, w.before av s = true := fun w h => hts w (List.mem_cons_of_mem _ h)
  have f_45 := htG _ tb_529
  have hgo : ∀ P, mp_M_close u x1 x2 x3 = P → ∀ (H : Heap) (locs : List Loc), wd D vwCl (mC a k3) A s.heap u H locs → W p l e rm_mM_close s m av below meth c H locs 0 0 (QI below D vwCl (mC a k3) A av s P) (F0 m 0 ls []) := by
    intro P hP H locs hw
    refine lv_aload_n hx hb dX8_close_0 rfl (lv_at hl 0 rfl) ?_
    refine lv_iload_n hx hb dX8_close_1 rfl (lv_at hl 1 rfl) ?_
    let r1 : Int32 := mp_M_isStreet u x1
    refine call_vir (rest := []) ⟨hx, hb, hml, hown, htG⟩ nestW_ok hK hN hA (mc_M_isStreet l D a k3 u x1) (cwV 1 htG (tb_V tb_624 tb_626 tb_10 tb_28 tb_627) rfl rfl rfl (by decide +kernel) ⟨Nat.le_of_ble_eq_true rfl, Nat.le_of_ble_eq_true rfl⟩) (ci := 8) rfl (mo_0 a k3 u) rfl hw rfl hl.1 rfl (Nat.le_of_ble_eq_true rfl) dX8_close_2 ⟨Nat.zero_le _, Nat.zero_le _⟩ (fun H locs (hw : wd D vwCl (mC a k3) A s.heap u H locs) => ?_)
    refine lv_if_eq (tgt := 19) hx hb dX8_close_5 (by decide) (fun c2 => ?_) (fun c2 => ?_)
    · have hP := (if_pos c2).symm.trans hP
      refine lv_iconst (v := 0) hx hb dX8_close_19 (by decide) ?_
      exact ret_z hx hb hr hlocks hw rfl dX8_close_20 hP
    · have hP := (if_neg c2).symm.trans hP
      have hq := hq c2
      refine lv_iload_n hx hb dX8_close_8 rfl (lv_at hl 2 rfl) ?_
      refine lv_if_lt (tgt := 19) hx hb dX8_close_9 (by decide) (fun c3 => ?_) (fun c3 => ?_)
      · have hP := (if_pos c3).symm.trans hP
        refine lv_iconst (v := 0) hx hb dX8_close_19 (by decide) ?_
        exact ret_z hx hb hr hlocks hw rfl dX8_close_20 hP
      · have hP := (if_neg c3).symm.trans hP
        have hq := hq c3
        refine lv_iload_n hx hb dX8_close_12 rfl (lv_at hl 2 rfl) ?_
        refine lv_sipush (v := 366) hx hb dX8_close_13 (by decide) ?_
        refine lv_icmp_lt (tgt := 21) hx hb dX8_close_16 (by decide) (fun c4 => ?_) (fun c4 => ?_)
        · have hP := (if_pos c4).symm.trans hP
          have hq := hq c4
          refine lv_aload_n hx hb dX8_close_21 rfl (lv_at hl 0 rfl) ?_
          refine va_get (D := D) (ci := 8) (v := .ref (a 12)) (C := RX8) (T := TX8) (N := 28) hx hb htG in_8 hown hK hw.1 0 (mo_0 a k3 u) rfl 15 (by decide) f_45 (fun _ h9 => h9) rfl dX8_close_22 ?_
          refine lv_sipush (v := 366) hx hb dX8_close_25 (by decide) ?_
          refine lv_iload_n hx hb dX8_close_28 rfl (lv_at hl 1 rfl) ?_
          refine lv_imul hx hb dX8_close_29 ?_
          refine lv_iload_n hx hb dX8_close_30 rfl (lv_at hl 2 rfl) ?_
          refine lv_iadd hx hb dX8_close_31 ?_
          refine lv_iload_n hx hb dX8_close_32 rfl (lv_at hl 3 rfl) ?_
          have h5 := hq
          let u6 : S4 := s4_wz u 9 (((366 : Int32) * x1) + x2) x3
          refine y_zast (t0 := 2) hx hb hK hw 9 (mo_12 a k3 u) (mq_12 a k3 u) rfl h5 dX8_close_33 (fun H locs (hw : wd D vwCl (mC a k3) A s.heap u6 H locs) => ?_)
          refine lv_iconst (v := 1) hx hb dX8_close_34 (by decide) ?_
          exact ret_z hx hb hr hlocks hw rfl dX8_close_35 hP
        · have hP := (if_neg c4).symm.trans hP
          refine lv_iconst (v := 0) hx hb dX8_close_19 (by decide) ?_
          exact ret_z hx hb hr hlocks hw rfl dX8_close_20 hP
  exact hgo _ rfl s.heap [] hw
theorem dX8_beginOf_0 : decode cX8_beginOf 0 = .ok (.iload_n 1, 1) := by decide +kernel
theorem dX8_beginOf_1 : decode cX8_beginOf 1 = .ok (.iconst 2, 1) := by decide +kernel
theorem dX8_beginOf_2 : decode cX8_beginOf 2 = .ok (.irem, 1) := by decide +kernel
theorem dX8_beginOf_3 : decode cX8_beginOf 3 = .ok (.ifCond .ne 14, 3) := by decide +kernel
theorem dX8_beginOf_6 : decode cX8_beginOf 6 = .ok (.aload_n 0, 1) := by decide +kernel
theorem dX8_beginOf_7 : decode cX8_beginOf 7 = .ok (.getfield 20, 3) := by decide +kernel
theorem dX8_beginOf_10 : decode cX8_beginOf 10 = .ok (.iload_n 1, 1) := by decide +kernel
theorem dX8_beginOf_11 : decode cX8_beginOf 11 = .ok (.iconst 2, 1) := by decide +kernel
theorem dX8_beginOf_12 : decode cX8_beginOf 12 = .ok (.idiv, 1) := by decide +kernel
theorem dX8_beginOf_13 : decode cX8_beginOf 13 = .ok (.iaload, 1) := by decide +kernel
theorem dX8_beginOf_14 : decode cX8_beginOf 14 = .ok (.goto 11, 3) := by decide +kernel
theorem dX8_beginOf_17 : decode cX8_beginOf 17 = .ok (.aload_n 0, 1) := by decide +kernel
theorem dX8_beginOf_18 : decode cX8_beginOf 18 = .ok (.getfield 23, 3) := by decide +kernel
theorem dX8_beginOf_21 : decode cX8_beginOf 21 = .ok (.iload_n 1, 1) := by decide +kernel
theorem dX8_beginOf_22 : decode cX8_beginOf 22 = .ok (.iconst 2, 1) := by decide +kernel
theorem dX8_beginOf_23 : decode cX8_beginOf 23 = .ok (.idiv, 1) := by decide +kernel
theorem dX8_beginOf_24 : decode cX8_beginOf 24 = .ok (.iaload, 1) := by decide +kernel
theorem dX8_beginOf_25 : decode cX8_beginOf 25 = .ok (.ireturn, 1) := by decide +kernel
abbrev rm_mM_beginOf : Room := { frames := 0, cells := 0, slots := 0, locals := 0 }
def mp_M_beginOf (u : S4) (x1 : Int32) : Int32 :=
  if (x1 - x1 / (2 : Int32) * (2 : Int32)) = (0 : Int32) then
    (s4_ra u 3 (x1 / (2 : Int32)))
  else
    (s4_ra u 4 (x1 / (2 : Int32)))
def mq_M_beginOf (u : S4) (x1 : Int32) : Prop :=
  (((x1 - x1 / (2 : Int32) * (2 : Int32)) = (0 : Int32) →
    vp_in (x1 / (2 : Int32)) 12) ∧ (¬ (x1 - x1 / (2 : Int32) * (2 : Int32)) = (0 : Int32) →
    vp_in (x1 / (2 : Int32)) 12))
set_option maxHeartbeats 4000000 in
set_option maxRecDepth 100000 in
theorem mc_M_beginOf (l : Launch) (D : va_G) (a : Nat → Nat) (k3 : K3) (u : S4) (x1 : Int32) (hq : mq_M_beginOf u x1) : MI l D vwCl (ty3 k3) nestW (mC a k3) yX8_beginOf (kX8_beginOf :: tbG) rm_mM_beginOf [.ref (a 0), .int x1] u (mp_M_beginOf u x1, u) := by
  refine mkI (cc := cX8_beginOf) (maxL := 2) (ret := (some .int)) (by decide) rfl (Nat.le_of_ble_eq_true rfl) ?_
  intro p e s m below meth c A ls F hw hl
  generalize hav : ([.ref (a 0), .int x1] : List Value).toArray = av at F ⊢
  have hl : lv_has ls 2 [(0, .ref (a 0)), (1, .int x1)] := hl
  obtain ⟨hx, hb, hr, hml, hown, hts, hK, hN, hlocks, hA⟩ := id F
  have hown : s.vm.findClass RX8 = some m.cls := hown
  have htG : ∀ w ∈ tbG, w.before av s = true := fun w h => hts w (List.mem_cons_of_mem _ h)
  have f_23 := htG _ tb_520
  have f_20 := htG _ tb_519
  have hgo : ∀ P, mp_M_beginOf u x1 = P → ∀ (H : Heap) (locs : List Loc), wd D vwCl (mC a k3) A s.heap u H locs → W p l e rm_mM_beginOf s m av below meth c H locs 0 0 (QI below D vwCl (mC a k3) A av s (P, u)) (F0 m 0 ls []) := by
    intro P hP H locs hw
    refine lv_iload_n hx hb dX8_beginOf_0 rfl (lv_at hl 1 rfl) ?_
    refine lv_iconst (v := 2) hx hb dX8_beginOf_1 (by decide) ?_
    refine lv_irem hx hb dX8_beginOf_2 (by decide) ?_
    refine lv_if_ne (tgt := 17) hx hb dX8_beginOf_3 (by decide) (fun c1 => ?_) (fun c1 => ?_)
    · have hP := (if_neg c1).symm.trans hP
      have hq := hq.2 c1
      refine lv_aload_n hx hb dX8_beginOf_17 rfl (lv_at hl 0 rfl) ?_
      refine va_get (D := D) (ci := 8) (v := .ref (a 5)) (C := RX8) (T := TX8) (N := 28) hx hb htG in_8 hown hK hw.1 0 (mo_0 a k3 u) rfl 6 (by decide) f_23 (fun _ h9 => h9) rfl dX8_beginOf_18 ?_
      refine lv_iload_n hx hb dX8_beginOf_21 rfl (lv_at hl 1 rfl) ?_
      refine lv_iconst (v := 2) hx hb dX8_beginOf_22 (by decide) ?_
      refine lv_idiv hx hb dX8_beginOf_23 (by decide) ?_
      have h2 := hq
      refine y_iald (t0 := 0) hx hb hK hw 4 (mo_5 a k3 u) rfl h2 dX8_beginOf_24 ?_
      exact ret_i hx hb hr hlocks hw dX8_beginOf_25 (congrArg (fun z => (z, u)) hP)
    · have hP := (if_pos c1).symm.trans hP
      have hq := hq.1 c1
      refine lv_aload_n hx hb dX8_beginOf_6 rfl (lv_at hl 0 rfl) ?_
      refine va_get (D := D) (ci := 8) (v := .ref (a 4)) (C := RX8) (T := TX8) (N := 28) hx hb htG in_8 hown hK hw.1 0 (mo_0 a k3 u) rfl 5 (by decide) f_20 (fun _ h9 => h9) rfl dX8_beginOf_7 ?_
      refine lv_iload_n hx hb dX8_beginOf_10 rfl (lv_at hl 1 rfl) ?_
      refine lv_iconst (v := 2) hx hb dX8_beginOf_11 (by decide) ?_
      refine lv_idiv hx hb dX8_beginOf_12 (by decide) ?_
      have h3 := hq
      refine y_iald (t0 := 0) hx hb hK hw 3 (mo_4 a k3 u) rfl h3 dX8_beginOf_13 ?_
      refine lv_goto (tgt := 25) hx hb dX8_beginOf_14 (by decide) ?_
      exact ret_i hx hb hr hlocks hw dX8_beginOf_25 (congrArg (fun z => (z, u)) hP)
  exact hgo _ rfl s.heap [] hw
theorem dX8_endOf_0 : decode cX8_endOf 0 = .ok (.iload_n 1, 1) := by decide +kernel
theorem dX8_endOf_1 : decode cX8_endOf 1 = .ok (.iconst 2, 1) := by decide +kernel
theorem dX8_endOf_2 : decode cX8_endOf 2 = .ok (.irem, 1) := by decide +kernel
theorem dX8_endOf_3 : decode cX8_endOf 3 = .ok (.ifCond .ne 14, 3) := by decide +kernel
theorem dX8_endOf_6 : decode cX8_endOf 6 = .ok (.aload_n 0, 1) := by decide +kernel
theorem dX8_endOf_7 : decode cX8_endOf 7 = .ok (.getfield 23, 3) := by decide +kernel
theorem dX8_endOf_10 : decode cX8_endOf 10 = .ok (.iload_n 1, 1) := by decide +kernel
theorem dX8_endOf_11 : decode cX8_endOf 11 = .ok (.iconst 2, 1) := by decide +kernel
theorem dX8_endOf_12 : decode cX8_endOf 12 = .ok (.idiv, 1) := by decide +kernel
theorem dX8_endOf_13 : decode cX8_endOf 13 = .ok (.iaload, 1) := by decide +kernel
theorem dX8_endOf_14 : decode cX8_endOf 14 = .ok (.goto 11, 3) := by decide +kernel
theorem dX8_endOf_17 : decode cX8_endOf 17 = .ok (.aload_n 0, 1) := by decide +kernel
theorem dX8_endOf_18 : decode cX8_endOf 18 = .ok (.getfield 20, 3) := by decide +kernel
theorem dX8_endOf_21 : decode cX8_endOf 21 = .ok (.iload_n 1, 1) := by decide +kernel
theorem dX8_endOf_22 : decode cX8_endOf 22 = .ok (.iconst 2, 1) := by decide +kernel
theorem dX8_endOf_23 : decode cX8_endOf 23 = .ok (.idiv, 1) := by decide +kernel
theorem dX8_endOf_24 : decode cX8_endOf 24 = .ok (.iaload, 1) := by decide +kernel
theorem dX8_endOf_25 : decode cX8_endOf 25 = .ok (.ireturn, 1) := by decide +kernel
abbrev rm_mM_endOf : Room := { frames := 0, cells := 0, slots := 0, locals := 0 }
def mp_M_endOf (u : S4) (x1 : Int32) : Int32 :=
  if (x1 - x1 / (2 : Int32) * (2 : Int32)) = (0 : Int32) then
    (s4_ra u 4 (x1 / (2 : Int32)))
  else
    (s4_ra u 3 (x1 / (2 : Int32)))
def mq_M_endOf (u : S4) (x1 : Int32) : Prop :=
  (((x1 - x1 / (2 : Int32) * (2 : Int32)) = (0 : Int32) →
    vp_in (x1 / (2 : Int32)) 12) ∧ (¬ (x1 - x1 / (2 : Int32) * (2 : Int32)) = (0 : Int32) →
    vp_in (x1 / (2 : Int32)) 12))
set_option maxHeartbeats 4000000 in
set_option maxRecDepth 100000 in
theorem mc_M_endOf (l : Launch) (D : va_G) (a : Nat → Nat) (k3 : K3) (u : S4) (x1 : Int32) (hq : mq_M_endOf u x1) : MI l D vwCl (ty3 k3) nestW (mC a k3) yX8_endOf (kX8_endOf :: tbG) rm_mM_endOf [.ref (a 0), .int x1] u (mp_M_endOf u x1, u) := by
  refine mkI (cc := cX8_endOf) (maxL := 2) (ret := (some .int)) (by decide) rfl (Nat.le_of_ble_eq_true rfl) ?_
  intro p e s m below meth c A ls F hw hl
  generalize hav : ([.ref (a 0), .int x1] : List Value).toArray = av at F ⊢
  have hl : lv_has ls 2 [(0, .ref (a 0)), (1, .int x1)] := hl
  obtain ⟨hx, hb, hr, hml, hown, hts, hK, hN, hlocks, hA⟩ := id F
  have hown : s.vm.findClass RX8 = some m.cls := hown
  have htG : ∀ w ∈ tbG, w.before av s = true := fun w h => hts w (List.mem_cons_of_mem _ h)
  have f_20 := htG _ tb_519
  have f_23 := htG _ tb_520
  have hgo : ∀ P, mp_M_endOf u x1 = P → ∀ (H : Heap) (locs : List Loc), wd D vwCl (mC a k3) A s.heap u H locs → W p l e rm_mM_endOf s m av below meth c H locs 0 0 (QI below D vwCl (mC a k3) A av s (P, u)) (F0 m 0 ls []) := by
    intro P hP H locs hw
    refine lv_iload_n hx hb dX8_endOf_0 rfl (lv_at hl 1 rfl) ?_
    refine lv_iconst (v := 2) hx hb dX8_endOf_1 (by decide) ?_
    refine lv_irem hx hb dX8_endOf_2 (by decide) ?_
    refine lv_if_ne (tgt := 17) hx hb dX8_endOf_3 (by decide) (fun c1 => ?_) (fun c1 => ?_)
    · have hP := (if_neg c1).symm.trans hP
      have hq := hq.2 c1
      refine lv_aload_n hx hb dX8_endOf_17 rfl (lv_at hl 0 rfl) ?_
      refine va_get (D := D) (ci := 8) (v := .ref (a 4)) (C := RX8) (T := TX8) (N := 28) hx hb htG in_8 hown hK hw.1 0 (mo_0 a k3 u) rfl 5 (by decide) f_20 (fun _ h9 => h9) rfl dX8_endOf_18 ?_
      refine lv_iload_n hx hb dX8_endOf_21 rfl (lv_at hl 1 rfl) ?_
      refine lv_iconst (v := 2) hx hb dX8_endOf_22 (by decide) ?_
      refine lv_idiv hx hb dX8_endOf_23 (by decide) ?_
      have h2 := hq
      refine y_iald (t0 := 0) hx hb hK hw 3 (mo_4 a k3 u) rfl h2 dX8_endOf_24 ?_
      exact ret_i hx hb hr hlocks hw dX8_endOf_25 (congrArg (fun z => (z, u)) hP)
    · have hP := (if_pos c1).symm.trans hP
      have hq := hq.1 c1
      refine lv_aload_n hx hb dX8_endOf_6 rfl (lv_at hl 0 rfl) ?_
      refine va_get (D := D) (ci := 8) (v := .ref (a 5)) (C := RX8) (T := TX8) (N := 28) hx hb htG in_8 hown hK hw.1 0 (mo_0 a k3 u) rfl 6 (by decide) f_23 (fun _ h9 => h9) rfl dX8_endOf_7 ?_
      refine lv_iload_n hx hb dX8_endOf_10 rfl (lv_at hl 1 rfl) ?_
      refine lv_iconst (v := 2) hx hb dX8_endOf_11 (by decide) ?_
      refine lv_idiv hx hb dX8_endOf_12 (by decide) ?_
      have h3 := hq
      refine y_iald (t0 := 0) hx hb hK hw 4 (mo_5 a k3 u) rfl h3 dX8_endOf_13 ?_
      refine lv_goto (tgt := 25) hx hb dX8_endOf_14 (by decide) ?_
      exact ret_i hx hb hr hlocks hw dX8_endOf_25 (congrArg (fun z => (z, u)) hP)
  exact hgo _ rfl s.heap [] hw
