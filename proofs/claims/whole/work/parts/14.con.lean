theorem dX7_least_0 : decode cX7_least 0 = .ok (.aload_n 0, 1) := by decide +kernel
theorem dX7_least_1 : decode cX7_least 1 = .ok (.iload_n 1, 1) := by decide +kernel
theorem dX7_least_2 : decode cX7_least 2 = .ok (.iload_n 2, 1) := by decide +kernel
theorem dX7_least_3 : decode cX7_least 3 = .ok (.invokevirtual 98, 3) := by decide +kernel
theorem dX7_least_6 : decode cX7_least 6 = .ok (.ifCond .eq 13, 3) := by decide +kernel
theorem dX7_least_9 : decode cX7_least 9 = .ok (.aload_n 0, 1) := by decide +kernel
theorem dX7_least_10 : decode cX7_least 10 = .ok (.iload_n 3, 1) := by decide +kernel
theorem dX7_least_11 : decode cX7_least 11 = .ok (.iload 4, 2) := by decide +kernel
theorem dX7_least_13 : decode cX7_least 13 = .ok (.invokevirtual 98, 3) := by decide +kernel
theorem dX7_least_16 : decode cX7_least 16 = .ok (.ifCond .ne 5, 3) := by decide +kernel
theorem dX7_least_19 : decode cX7_least 19 = .ok (.iconst (-1), 1) := by decide +kernel
theorem dX7_least_20 : decode cX7_least 20 = .ok (.ireturn, 1) := by decide +kernel
theorem dX7_least_21 : decode cX7_least 21 = .ok (.iload 5, 2) := by decide +kernel
theorem dX7_least_23 : decode cX7_least 23 = .ok (.ifCond .lt 10, 3) := by decide +kernel
theorem dX7_least_26 : decode cX7_least 26 = .ok (.iload 5, 2) := by decide +kernel
theorem dX7_least_28 : decode cX7_least 28 = .ok (.ldc 102, 2) := by decide +kernel
theorem dX7_least_30 : decode cX7_least 30 = .ok (.if_icmp .lt 5, 3) := by decide +kernel
theorem dX7_least_33 : decode cX7_least 33 = .ok (.iconst (-1), 1) := by decide +kernel
theorem dX7_least_34 : decode cX7_least 34 = .ok (.ireturn, 1) := by decide +kernel
theorem dX7_least_35 : decode cX7_least 35 = .ok (.iload_n 1, 1) := by decide +kernel
theorem dX7_least_36 : decode cX7_least 36 = .ok (.iload_n 2, 1) := by decide +kernel
theorem dX7_least_37 : decode cX7_least 37 = .ok (.invokestatic 103, 3) := by decide +kernel
theorem dX7_least_40 : decode cX7_least 40 = .ok (.istore 6, 2) := by decide +kernel
theorem dX7_least_42 : decode cX7_least 42 = .ok (.iload_n 3, 1) := by decide +kernel
theorem dX7_least_43 : decode cX7_least 43 = .ok (.iload 4, 2) := by decide +kernel
theorem dX7_least_45 : decode cX7_least 45 = .ok (.invokestatic 103, 3) := by decide +kernel
theorem dX7_least_48 : decode cX7_least 48 = .ok (.istore 7, 2) := by decide +kernel
theorem dX7_least_50 : decode cX7_least 50 = .ok (.aload_n 0, 1) := by decide +kernel
theorem dX7_least_51 : decode cX7_least 51 = .ok (.getfield 26, 3) := by decide +kernel
theorem dX7_least_54 : decode cX7_least 54 = .ok (.invokevirtual 107, 3) := by decide +kernel
theorem dX7_least_57 : decode cX7_least 57 = .ok (.aload_n 0, 1) := by decide +kernel
theorem dX7_least_58 : decode cX7_least 58 = .ok (.getfield 19, 3) := by decide +kernel
theorem dX7_least_61 : decode cX7_least 61 = .ok (.aload_n 0, 1) := by decide +kernel
theorem dX7_least_62 : decode cX7_least 62 = .ok (.getfield 12, 3) := by decide +kernel
theorem dX7_least_65 : decode cX7_least 65 = .ok (.iload 6, 2) := by decide +kernel
theorem dX7_least_67 : decode cX7_least 67 = .ok (.iload 5, 2) := by decide +kernel
theorem dX7_least_69 : decode cX7_least 69 = .ok (.invokevirtual 110, 3) := by decide +kernel
theorem dX7_least_72 : decode cX7_least 72 = .ok (.aload_n 0, 1) := by decide +kernel
theorem dX7_least_73 : decode cX7_least 73 = .ok (.getfield 19, 3) := by decide +kernel
theorem dX7_least_76 : decode cX7_least 76 = .ok (.iload 7, 2) := by decide +kernel
theorem dX7_least_78 : decode cX7_least 78 = .ok (.invokevirtual 114, 3) := by decide +kernel
theorem dX7_least_81 : decode cX7_least 81 = .ok (.ifCond .ne 5, 3) := by decide +kernel
theorem dX7_least_84 : decode cX7_least 84 = .ok (.iconst (-1), 1) := by decide +kernel
theorem dX7_least_85 : decode cX7_least 85 = .ok (.ireturn, 1) := by decide +kernel
theorem dX7_least_86 : decode cX7_least 86 = .ok (.aload_n 0, 1) := by decide +kernel
theorem dX7_least_87 : decode cX7_least 87 = .ok (.getfield 19, 3) := by decide +kernel
theorem dX7_least_90 : decode cX7_least 90 = .ok (.aload_n 0, 1) := by decide +kernel
theorem dX7_least_91 : decode cX7_least 91 = .ok (.getfield 12, 3) := by decide +kernel
theorem dX7_least_94 : decode cX7_least 94 = .ok (.iload 7, 2) := by decide +kernel
theorem dX7_least_96 : decode cX7_least 96 = .ok (.invokevirtual 117, 3) := by decide +kernel
theorem dX7_least_99 : decode cX7_least 99 = .ok (.aload_n 0, 1) := by decide +kernel
theorem dX7_least_100 : decode cX7_least 100 = .ok (.getfield 19, 3) := by decide +kernel
theorem dX7_least_103 : decode cX7_least 103 = .ok (.aload_n 0, 1) := by decide +kernel
theorem dX7_least_104 : decode cX7_least 104 = .ok (.getfield 12, 3) := by decide +kernel
theorem dX7_least_107 : decode cX7_least 107 = .ok (.iload 6, 2) := by decide +kernel
theorem dX7_least_109 : decode cX7_least 109 = .ok (.iload 7, 2) := by decide +kernel
theorem dX7_least_111 : decode cX7_least 111 = .ok (.aload_n 0, 1) := by decide +kernel
theorem dX7_least_112 : decode cX7_least 112 = .ok (.getfield 26, 3) := by decide +kernel
theorem dX7_least_115 : decode cX7_least 115 = .ok (.invokevirtual 121, 3) := by decide +kernel
theorem dX7_least_118 : decode cX7_least 118 = .ok (.aload_n 0, 1) := by decide +kernel
theorem dX7_least_119 : decode cX7_least 119 = .ok (.getfield 19, 3) := by decide +kernel
theorem dX7_least_122 : decode cX7_least 122 = .ok (.iload 7, 2) := by decide +kernel
theorem dX7_least_124 : decode cX7_least 124 = .ok (.invokevirtual 125, 3) := by decide +kernel
theorem dX7_least_127 : decode cX7_least 127 = .ok (.iload 5, 2) := by decide +kernel
theorem dX7_least_129 : decode cX7_least 129 = .ok (.isub, 1) := by decide +kernel
theorem dX7_least_130 : decode cX7_least 130 = .ok (.ireturn, 1) := by decide +kernel
abbrev rm_xO_least : Room := { frames := 6, cells := 0, slots := 0, locals := 145 }
def xp_O_least (u : S4) (x1 : Int32) (x2 : Int32) (x3 : Int32) (x4 : Int32) (x5 : Int32) : Int32 × S4 :=
  let r1 : Int32 := xp_O_isSide u x1 x2
  if r1 = (0 : Int32) then
    ((-1 : Int32), u)
  else
    let r3 : Int32 := xp_O_isSide u x3 x4
    if r3 = (0 : Int32) then
      ((-1 : Int32), u)
    else
      if x5 < (0 : Int32) then
        ((-1 : Int32), u)
      else
        if x5 < (31622400 : Int32) then
          let r7 : Int32 := xp_O_numberOf u x1 x2
          let r8 : Int32 := xp_O_numberOf u x3 x4
          let u9 : S4 := xp_HeldWay_forget u
          let u11 : S4 := xp_Search_explore u9 r7 x5
          let r13 : Int32 := xp_Search_comesTo u11 r8
          if r13 = (0 : Int32) then
            ((-1 : Int32), u11)
          else
            let u16 : S4 := xp_Search_markLeading u11 r8
            let u18 : S4 := xp_Search_trace u16 r7 r8
            let r20 : Int32 := xp_Search_earliestAt u18 r8
            ((r20 - x5), u18)
        else
          ((-1 : Int32), u)
def xq_O_least (u : S4) (x1 : Int32) (x2 : Int32) (x3 : Int32) (x4 : Int32) (x5 : Int32) : Prop :=
  let r1 : Int32 := xp_O_isSide u x1 x2
  (¬ r1 = (0 : Int32) →
    let r3 : Int32 := xp_O_isSide u x3 x4
    (¬ r3 = (0 : Int32) →
      (¬ x5 < (0 : Int32) →
        (x5 < (31622400 : Int32) →
          let r7 : Int32 := xp_O_numberOf u x1 x2
          let r8 : Int32 := xp_O_numberOf u x3 x4
          let u9 : S4 := xp_HeldWay_forget u
          xq_Search_explore u9 r7 x5 ∧
          let u11 : S4 := xp_Search_explore u9 r7 x5
          xq_Search_comesTo u11 r8 ∧
          let r13 : Int32 := xp_Search_comesTo u11 r8
          (¬ r13 = (0 : Int32) →
            xq_Search_markLeading u11 r8 ∧
            let u16 : S4 := xp_Search_markLeading u11 r8
            xq_Search_trace u16 r7 r8 ∧
            let u18 : S4 := xp_Search_trace u16 r7 r8
            xq_Search_earliestAt u18 r8)))))
set_option maxHeartbeats 4000000 in
set_option maxRecDepth 100000 in
theorem xc_O_least (l : Launch) (D : va_G) (a : Nat → Nat) (k3 : K3) (u : S4) (x1 : Int32) (x2 : Int32) (x3 : Int32) (x4 : Int32) (x5 : Int32) (hq : xq_O_least u x1 x2 x3 x4 x5) : MI l D vwCl (ty3 k3) nestW (xC a k3) yX7_least (kX7_least :: tbG) rm_xO_least [.ref (a 0), .int x1, .int x2, .int x3, .int x4, .int x5] u (xp_O_least u x1 x2 x3 x4 x5) := by
  refine mkI (cc := cX7_least) (maxL := 8) (ret := (some .int)) (by decide) rfl (Nat.le_of_ble_eq_true rfl) ?_
  intro p e s m below meth c A ls F hw hl
  generalize hav : ([.ref (a 0), .int x1, .int x2, .int x3, .int x4, .int x5] : List Value).toArray = av at F ⊢
  have hl : lv_has ls 8 [(0, .ref (a 0)), (1, .int x1), (2, .int x2), (3, .int x3), (4, .int x4), (5, .int x5)] := hl
  obtain ⟨hx, hb, hr, hml, hown, hts, hK, hN, hlocks, hA⟩ := id F
  have hown : s.vm.findClass RX7 = some m.cls := hown
  have htG : ∀ w ∈ tbG, w.before av s = true := fun w h => hts w (List.mem_cons_of_mem _ h)
  have k_102 := htG _ tb_294
  have f_26 := htG _ tb_190
  have f_19 := htG _ tb_189
  have f_12 := htG _ tb_188
  have hgo : ∀ P, xp_O_least u x1 x2 x3 x4 x5 = P → ∀ (H : Heap) (locs : List Loc), wd D vwCl (xC a k3) A s.heap u H locs → W p l e rm_xO_least s m av below meth c H locs 0 0 (QI below D vwCl (xC a k3) A av s P) (F0 m 0 ls []) := by
    intro P hP H locs hw
    refine lv_aload_n hx hb dX7_least_0 rfl (lv_at hl 0 rfl) ?_
    refine lv_iload_n hx hb dX7_least_1 rfl (lv_at hl 1 rfl) ?_
    refine lv_iload_n hx hb dX7_least_2 rfl (lv_at hl 2 rfl) ?_
    let r1 : Int32 := xp_O_isSide u x1 x2
    refine call_vir (rest := []) ⟨hx, hb, hml, hown, htG⟩ nestW_ok hK hN hA (xc_O_isSide l D a k3 u x1 x2) (cwV 2 htG (tb_V tb_290 tb_292 tb_0 tb_20 tb_293) rfl rfl rfl (by decide +kernel) ⟨Nat.le_of_ble_eq_true rfl, Nat.le_of_ble_eq_true rfl⟩) (ci := 7) rfl (xo_0 a k3 u) rfl hw rfl hl.1 rfl (Nat.le_of_ble_eq_true rfl) dX7_least_3 ⟨Nat.zero_le _, Nat.zero_le _⟩ (fun H locs (hw : wd D vwCl (xC a k3) A s.heap u H locs) => ?_)
    refine lv_if_eq (tgt := 19) hx hb dX7_least_6 (by decide) (fun c2 => ?_) (fun c2 => ?_)
    · have hP := (if_pos c2).symm.trans hP
      refine lv_iconst (v := -1) hx hb dX7_least_19 (by decide) ?_
      exact ret_i hx hb hr hlocks hw dX7_least_20 hP
    · have hP := (if_neg c2).symm.trans hP
      have hq := hq c2
      refine lv_aload_n hx hb dX7_least_9 rfl (lv_at hl 0 rfl) ?_
      refine lv_iload_n hx hb dX7_least_10 rfl (lv_at hl 3 rfl) ?_
      refine lv_iload hx hb dX7_least_11 (lv_at hl 4 rfl) ?_
      let r3 : Int32 := xp_O_isSide u x3 x4
      refine call_vir (rest := []) ⟨hx, hb, hml, hown, htG⟩ nestW_ok hK hN hA (xc_O_isSide l D a k3 u x3 x4) (cwV 2 htG (tb_V tb_290 tb_292 tb_0 tb_20 tb_293) rfl rfl rfl (by decide +kernel) ⟨Nat.le_of_ble_eq_true rfl, Nat.le_of_ble_eq_true rfl⟩) (ci := 7) rfl (xo_0 a k3 u) rfl hw rfl hl.1 rfl (Nat.le_of_ble_eq_true rfl) dX7_least_13 ⟨Nat.zero_le _, Nat.zero_le _⟩ (fun H locs (hw : wd D vwCl (xC a k3) A s.heap u H locs) => ?_)
      refine lv_if_ne (tgt := 21) hx hb dX7_least_16 (by decide) (fun c4 => ?_) (fun c4 => ?_)
      · have hP := (if_neg c4).symm.trans hP
        have hq := hq c4
        refine lv_iload hx hb dX7_least_21 (lv_at hl 5 rfl) ?_
        refine lv_if_lt (tgt := 33) hx hb dX7_least_23 (by decide) (fun c5 => ?_) (fun c5 => ?_)
        · have hP := (if_pos c5).symm.trans hP
          refine lv_iconst (v := -1) hx hb dX7_least_33 (by decide) ?_
          exact ret_i hx hb hr hlocks hw dX7_least_34 hP
        · have hP := (if_neg c5).symm.trans hP
          have hq := hq c5
          refine lv_iload hx hb dX7_least_26 (lv_at hl 5 rfl) ?_
          refine lv_ldc (v := 31622400) hx hb hown k_102 dX7_least_28 ?_
          refine lv_icmp_lt (tgt := 35) hx hb dX7_least_30 (by decide) (fun c6 => ?_) (fun c6 => ?_)
          · have hP := (if_pos c6).symm.trans hP
            have hq := hq c6
            refine lv_iload_n hx hb dX7_least_35 rfl (lv_at hl 1 rfl) ?_
            refine lv_iload_n hx hb dX7_least_36 rfl (lv_at hl 2 rfl) ?_
            let r7 : Int32 := xp_O_numberOf u x1 x2
            refine call_sir (rest := []) ⟨hx, hb, hml, hown, htG⟩ nestW_ok hK hN hA (xc_O_numberOf l D a k3 u x1 x2) (cwS 2 htG (tb_S tb_295 tb_296 tb_20 tb_297) rfl rfl rfl (by decide +kernel) ⟨Nat.le_of_ble_eq_true rfl, Nat.le_of_ble_eq_true rfl⟩) hw rfl hl.1 rfl (Nat.le_of_ble_eq_true rfl) dX7_least_37 ⟨Nat.zero_le _, Nat.zero_le _⟩ (fun H locs (hw : wd D vwCl (xC a k3) A s.heap u H locs) => ?_)
            refine lv_istore (lv' := [(6, .int r7), (0, .ref (a 0)), (1, .int x1), (2, .int x2), (3, .int x3), (4, .int x4), (5, .int x5)]) hx hb dX7_least_40 hl (by decide) rfl (fun ls hl => ?_)
            refine lv_iload_n hx hb dX7_least_42 rfl (lv_at hl 4 rfl) ?_
            refine lv_iload hx hb dX7_least_43 (lv_at hl 5 rfl) ?_
            let r8 : Int32 := xp_O_numberOf u x3 x4
            refine call_sir (rest := []) ⟨hx, hb, hml, hown, htG⟩ nestW_ok hK hN hA (xc_O_numberOf l D a k3 u x3 x4) (cwS 2 htG (tb_S tb_295 tb_296 tb_20 tb_297) rfl rfl rfl (by decide +kernel) ⟨Nat.le_of_ble_eq_true rfl, Nat.le_of_ble_eq_true rfl⟩) hw rfl hl.1 rfl (Nat.le_of_ble_eq_true rfl) dX7_least_45 ⟨Nat.zero_le _, Nat.zero_le _⟩ (fun H locs (hw : wd D vwCl (xC a k3) A s.heap u H locs) => ?_)
            refine lv_istore (lv' := [(7, .int r8), (6, .int r7), (0, .ref (a 0)), (1, .int x1), (2, .int x2), (3, .int x3), (4, .int x4), (5, .int x5)]) hx hb dX7_least_48 hl (by decide) rfl (fun ls hl => ?_)
            refine lv_aload_n hx hb dX7_least_50 rfl (lv_at hl 2 rfl) ?_
            refine va_get (D := D) (ci := 7) (v := .ref (a 6)) (C := RX7) (T := TX7) (N := 4) hx hb htG in_7 hown hK hw.1 0 (xo_0 a k3 u) rfl 2 (by decide) f_26 (fun _ h9 => h9) rfl dX7_least_51 ?_
            let u9 : S4 := xp_HeldWay_forget u
            refine call_vv (rest := []) ⟨hx, hb, hml, hown, htG⟩ nestW_ok hK hN hA (xc_HeldWay_forget l D a k3 u) (cwV 0 htG (tb_V tb_298 tb_299 tb_300 tb_26 tb_301) rfl rfl rfl (by decide +kernel) ⟨Nat.le_of_ble_eq_true rfl, Nat.le_of_ble_eq_true rfl⟩) (ci := 0) rfl (xo_6 a k3 u) rfl hw rfl hl.1 rfl (Nat.le_of_ble_eq_true rfl) dX7_least_54 ⟨Nat.zero_le _, Nat.zero_le _⟩ (fun H locs (hw : wd D vwCl (xC a k3) A s.heap u9 H locs) => ?_)
            refine lv_aload_n hx hb dX7_least_57 rfl (lv_at hl 2 rfl) ?_
            refine va_get (D := D) (ci := 7) (v := .ref (a 5)) (C := RX7) (T := TX7) (N := 4) hx hb htG in_7 hown hK hw.1 0 (xo_0 a k3 u9) rfl 1 (by decide) f_19 (fun _ h9 => h9) rfl dX7_least_58 ?_
            refine lv_aload_n hx hb dX7_least_61 rfl (lv_at hl 2 rfl) ?_
            refine va_get (D := D) (ci := 7) (v := .ref (a 1)) (C := RX7) (T := TX7) (N := 4) hx hb htG in_7 hown hK hw.1 0 (xo_0 a k3 u9) rfl 0 (by decide) f_12 (fun _ h9 => h9) rfl dX7_least_62 ?_
            refine lv_iload hx hb dX7_least_65 (lv_at hl 1 rfl) ?_
            refine lv_iload hx hb dX7_least_67 (lv_at hl 7 rfl) ?_
            obtain ⟨h10, hq⟩ := hq
            let u11 : S4 := xp_Search_explore u9 r7 x5
            refine call_vv (rest := []) ⟨hx, hb, hml, hown, htG⟩ nestW_ok hK hN hA (xc_Search_explore l D a k3 u9 r7 x5 h10) (cwV 3 htG (tb_V tb_302 tb_303 tb_304 tb_25 tb_305) rfl rfl rfl (by decide +kernel) ⟨Nat.le_of_ble_eq_true rfl, Nat.le_of_ble_eq_true rfl⟩) (ci := 4) rfl (xo_5 a k3 u9) rfl hw rfl hl.1 rfl (Nat.le_of_ble_eq_true rfl) dX7_least_69 ⟨Nat.zero_le _, Nat.zero_le _⟩ (fun H locs (hw : wd D vwCl (xC a k3) A s.heap u11 H locs) => ?_)
            refine lv_aload_n hx hb dX7_least_72 rfl (lv_at hl 2 rfl) ?_
            refine va_get (D := D) (ci := 7) (v := .ref (a 5)) (C := RX7) (T := TX7) (N := 4) hx hb htG in_7 hown hK hw.1 0 (xo_0 a k3 u11) rfl 1 (by decide) f_19 (fun _ h9 => h9) rfl dX7_least_73 ?_
            refine lv_iload hx hb dX7_least_76 (lv_at hl 0 rfl) ?_
            obtain ⟨h12, hq⟩ := hq
            let r13 : Int32 := xp_Search_comesTo u11 r8
            refine call_vir (rest := []) ⟨hx, hb, hml, hown, htG⟩ nestW_ok hK hN hA (xc_Search_comesTo l D a k3 u11 r8 h12) (cwV 1 htG (tb_V tb_383 tb_384 tb_385 tb_25 tb_386) rfl rfl rfl (by decide +kernel) ⟨Nat.le_of_ble_eq_true rfl, Nat.le_of_ble_eq_true rfl⟩) (ci := 4) rfl (xo_5 a k3 u11) rfl hw rfl hl.1 rfl (Nat.le_of_ble_eq_true rfl) dX7_least_78 ⟨Nat.zero_le _, Nat.zero_le _⟩ (fun H locs (hw : wd D vwCl (xC a k3) A s.heap u11 H locs) => ?_)
            refine lv_if_ne (tgt := 86) hx hb dX7_least_81 (by decide) (fun c14 => ?_) (fun c14 => ?_)
            · have hP := (if_neg c14).symm.trans hP
              have hq := hq c14
              refine lv_aload_n hx hb dX7_least_86 rfl (lv_at hl 2 rfl) ?_
              refine va_get (D := D) (ci := 7) (v := .ref (a 5)) (C := RX7) (T := TX7) (N := 4) hx hb htG in_7 hown hK hw.1 0 (xo_0 a k3 u11) rfl 1 (by decide) f_19 (fun _ h9 => h9) rfl dX7_least_87 ?_
              refine lv_aload_n hx hb dX7_least_90 rfl (lv_at hl 2 rfl) ?_
              refine va_get (D := D) (ci := 7) (v := .ref (a 1)) (C := RX7) (T := TX7) (N := 4) hx hb htG in_7 hown hK hw.1 0 (xo_0 a k3 u11) rfl 0 (by decide) f_12 (fun _ h9 => h9) rfl dX7_least_91 ?_
              refine lv_iload hx hb dX7_least_94 (lv_at hl 0 rfl) ?_
              obtain ⟨h15, hq⟩ := hq
              let u16 : S4 := xp_Search_markLeading u11 r8
              refine call_vv (rest := []) ⟨hx, hb, hml, hown, htG⟩ nestW_ok hK hN hA (xc_Search_markLeading l D a k3 u11 r8 h15) (cwV 2 htG (tb_V tb_387 tb_388 tb_389 tb_25 tb_390) rfl rfl rfl (by decide +kernel) ⟨Nat.le_of_ble_eq_true rfl, Nat.le_of_ble_eq_true rfl⟩) (ci := 4) rfl (xo_5 a k3 u11) rfl hw rfl hl.1 rfl (Nat.le_of_ble_eq_true rfl) dX7_least_96 ⟨Nat.zero_le _, Nat.zero_le _⟩ (fun H locs (hw : wd D vwCl (xC a k3) A s.heap u16 H locs) => ?_)
              refine lv_aload_n hx hb dX7_least_99 rfl (lv_at hl 2 rfl) ?_
              refine va_get (D := D) (ci := 7) (v := .ref (a 5)) (C := RX7) (T := TX7) (N := 4) hx hb htG in_7 hown hK hw.1 0 (xo_0 a k3 u16) rfl 1 (by decide) f_19 (fun _ h9 => h9) rfl dX7_least_100 ?_
              refine lv_aload_n hx hb dX7_least_103 rfl (lv_at hl 2 rfl) ?_
              refine va_get (D := D) (ci := 7) (v := .ref (a 1)) (C := RX7) (T := TX7) (N := 4) hx hb htG in_7 hown hK hw.1 0 (xo_0 a k3 u16) rfl 0 (by decide) f_12 (fun _ h9 => h9) rfl dX7_least_104 ?_
              refine lv_iload hx hb dX7_least_107 (lv_at hl 1 rfl) ?_
              refine lv_iload hx hb dX7_least_109 (lv_at hl 0 rfl) ?_
              refine lv_aload_n hx hb dX7_least_111 rfl (lv_at hl 2 rfl) ?_
              refine va_get (D := D) (ci := 7) (v := .ref (a 6)) (C := RX7) (T := TX7) (N := 4) hx hb htG in_7 hown hK hw.1 0 (xo_0 a k3 u16) rfl 2 (by decide) f_26 (fun _ h9 => h9) rfl dX7_least_112 ?_
              obtain ⟨h17, hq⟩ := hq
              let u18 : S4 := xp_Search_trace u16 r7 r8
              refine call_vv (rest := []) ⟨hx, hb, hml, hown, htG⟩ nestW_ok hK hN hA (xc_Search_trace l D a k3 u16 r7 r8 h17) (cwV 4 htG (tb_V tb_395 tb_396 tb_397 tb_25 tb_398) rfl rfl rfl (by decide +kernel) ⟨Nat.le_of_ble_eq_true rfl, Nat.le_of_ble_eq_true rfl⟩) (ci := 4) rfl (xo_5 a k3 u16) rfl hw rfl hl.1 rfl (Nat.le_of_ble_eq_true rfl) dX7_least_115 ⟨Nat.zero_le _, Nat.zero_le _⟩ (fun H locs (hw : wd D vwCl (xC a k3) A s.heap u18 H locs) => ?_)
              refine lv_aload_n hx hb dX7_least_118 rfl (lv_at hl 2 rfl) ?_
              refine va_get (D := D) (ci := 7) (v := .ref (a 5)) (C := RX7) (T := TX7) (N := 4) hx hb htG in_7 hown hK hw.1 0 (xo_0 a k3 u18) rfl 1 (by decide) f_19 (fun _ h9 => h9) rfl dX7_least_119 ?_
              refine lv_iload hx hb dX7_least_122 (lv_at hl 0 rfl) ?_
              have h19 := hq
              let r20 : Int32 := xp_Search_earliestAt u18 r8
              refine call_vir (rest := []) ⟨hx, hb, hml, hown, htG⟩ nestW_ok hK hN hA (xc_Search_earliestAt l D a k3 u18 r8 h19) (cwV 1 htG (tb_V tb_405 tb_406 tb_407 tb_25 tb_408) rfl rfl rfl (by decide +kernel) ⟨Nat.le_of_ble_eq_true rfl, Nat.le_of_ble_eq_true rfl⟩) (ci := 4) rfl (xo_5 a k3 u18) rfl hw rfl hl.1 rfl (Nat.le_of_ble_eq_true rfl) dX7_least_124 ⟨Nat.zero_le _, Nat.zero_le _⟩ (fun H locs (hw : wd D vwCl (xC a k3) A s.heap u18 H locs) => ?_)
              refine lv_iload hx hb dX7_least_127 (lv_at hl 7 rfl) ?_
              refine lv_isub hx hb dX7_least_129 ?_
              exact ret_i hx hb hr hlocks hw dX7_least_130 hP
            · have hP := (if_pos c14).symm.trans hP
              refine lv_iconst (v := -1) hx hb dX7_least_84 (by decide) ?_
              exact ret_i hx hb hr hlocks hw dX7_least_85 hP
          · have hP := (if_neg c6).symm.trans hP
            refine lv_iconst (v := -1) hx hb dX7_least_33 (by decide) ?_
            exact ret_i hx hb hr hlocks hw dX7_least_34 hP
      · have hP := (if_pos c4).symm.trans hP
        refine lv_iconst (v := -1) hx hb dX7_least_19 (by decide) ?_
        exact ret_i hx hb hr hlocks hw dX7_least_20 hP
  exact hgo _ rfl s.heap [] hw
theorem dX0_has_0 : decode cX0_has 0 = .ok (.iload_n 1, 1) := by decide +kernel
theorem dX0_has_1 : decode cX0_has 1 = .ok (.ifCond .lt 15, 3) := by decide +kernel
theorem dX0_has_4 : decode cX0_has 4 = .ok (.iload_n 1, 1) := by decide +kernel
theorem dX0_has_5 : decode cX0_has 5 = .ok (.aload_n 0, 1) := by decide +kernel
theorem dX0_has_6 : decode cX0_has 6 = .ok (.getfield 18, 3) := by decide +kernel
theorem dX0_has_9 : decode cX0_has 9 = .ok (.if_icmp .ge 7, 3) := by decide +kernel
theorem dX0_has_12 : decode cX0_has 12 = .ok (.iconst 1, 1) := by decide +kernel
theorem dX0_has_13 : decode cX0_has 13 = .ok (.goto 4, 3) := by decide +kernel
theorem dX0_has_16 : decode cX0_has 16 = .ok (.iconst 0, 1) := by decide +kernel
theorem dX0_has_17 : decode cX0_has 17 = .ok (.ireturn, 1) := by decide +kernel
abbrev rm_xHeldWay_has : Room := { frames := 0, cells := 0, slots := 0, locals := 0 }
def xp_HeldWay_has (u : S4) (x1 : Int32) : Int32 :=
  if x1 < (0 : Int32) then
    (0 : Int32)
  else
    if (s4_i u 3) ≤ x1 then
      (0 : Int32)
    else
      (1 : Int32)
set_option maxHeartbeats 4000000 in
set_option maxRecDepth 100000 in
theorem xc_HeldWay_has (l : Launch) (D : va_G) (a : Nat → Nat) (k3 : K3) (u : S4) (x1 : Int32) : MI l D vwCl (ty3 k3) nestW (xC a k3) yX0_has (kX0_has :: tbG) rm_xHeldWay_has [.ref (a 6), .int x1] u (xp_HeldWay_has u x1, u) := by
  refine mkI (cc := cX0_has) (maxL := 2) (ret := (some .boolean)) (by decide) rfl (Nat.le_of_ble_eq_true rfl) ?_
  intro p e s m below meth c A ls F hw hl
  generalize hav : ([.ref (a 6), .int x1] : List Value).toArray = av at F ⊢
  have hl : lv_has ls 2 [(0, .ref (a 6)), (1, .int x1)] := hl
  obtain ⟨hx, hb, hr, hml, hown, hts, hK, hN, hlocks, hA⟩ := id F
  have hown : s.vm.findClass RX0 = some m.cls := hown
  have htG : ∀ w ∈ tbG, w.before av s = true := fun w h => hts w (List.mem_cons_of_mem _ h)
  have f_18 := htG _ tb_167
  have hgo : ∀ P, xp_HeldWay_has u x1 = P → ∀ (H : Heap) (locs : List Loc), wd D vwCl (xC a k3) A s.heap u H locs → W p l e rm_xHeldWay_has s m av below meth c H locs 0 0 (QI below D vwCl (xC a k3) A av s (P, u)) (F0 m 0 ls []) := by
    intro P hP H locs hw
    refine lv_iload_n hx hb dX0_has_0 rfl (lv_at hl 1 rfl) ?_
    refine lv_if_lt (tgt := 16) hx hb dX0_has_1 (by decide) (fun c1 => ?_) (fun c1 => ?_)
    · have hP := (if_pos c1).symm.trans hP
      refine lv_iconst (v := 0) hx hb dX0_has_16 (by decide) ?_
      exact ret_z hx hb hr hlocks hw rfl dX0_has_17 (congrArg (fun z => (z, u)) hP)
    · have hP := (if_neg c1).symm.trans hP
      refine lv_iload_n hx hb dX0_has_4 rfl (lv_at hl 1 rfl) ?_
      refine lv_aload_n hx hb dX0_has_5 rfl (lv_at hl 0 rfl) ?_
      refine va_get (D := D) (ci := 0) (v := .int (s4_i u 3)) (C := RX0) (T := TX0) (N := 3) hx hb htG in_0 hown hK hw.1 6 (xo_6 a k3 u) rfl 2 (by decide) f_18 (fun _ h9 => h9) rfl dX0_has_6 ?_
      refine lv_icmp_ge (tgt := 16) hx hb dX0_has_9 (by decide) (fun c2 => ?_) (fun c2 => ?_)
      · have hP := (if_pos c2).symm.trans hP
        refine lv_iconst (v := 0) hx hb dX0_has_16 (by decide) ?_
        exact ret_z hx hb hr hlocks hw rfl dX0_has_17 (congrArg (fun z => (z, u)) hP)
      · have hP := (if_neg c2).symm.trans hP
        refine lv_iconst (v := 1) hx hb dX0_has_12 (by decide) ?_
        refine lv_goto (tgt := 17) hx hb dX0_has_13 (by decide) ?_
        exact ret_z hx hb hr hlocks hw rfl dX0_has_17 (congrArg (fun z => (z, u)) hP)
  exact hgo _ rfl s.heap [] hw
theorem dX0_sideAt_0 : decode cX0_sideAt 0 = .ok (.aload_n 0, 1) := by decide +kernel
theorem dX0_sideAt_1 : decode cX0_sideAt 1 = .ok (.getfield 9, 3) := by decide +kernel
theorem dX0_sideAt_4 : decode cX0_sideAt 4 = .ok (.iload_n 1, 1) := by decide +kernel
theorem dX0_sideAt_5 : decode cX0_sideAt 5 = .ok (.iaload, 1) := by decide +kernel
theorem dX0_sideAt_6 : decode cX0_sideAt 6 = .ok (.ireturn, 1) := by decide +kernel
abbrev rm_xHeldWay_sideAt : Room := { frames := 0, cells := 0, slots := 0, locals := 0 }
def xp_HeldWay_sideAt (u : S4) (x1 : Int32) : Int32 :=
  (s4_ra u 15 x1)
def xq_HeldWay_sideAt (u : S4) (x1 : Int32) : Prop :=
  vp_in x1 24
set_option maxHeartbeats 4000000 in
set_option maxRecDepth 100000 in
theorem xc_HeldWay_sideAt (l : Launch) (D : va_G) (a : Nat → Nat) (k3 : K3) (u : S4) (x1 : Int32) (hq : xq_HeldWay_sideAt u x1) : MI l D vwCl (ty3 k3) nestW (xC a k3) yX0_sideAt (kX0_sideAt :: tbG) rm_xHeldWay_sideAt [.ref (a 6), .int x1] u (xp_HeldWay_sideAt u x1, u) := by
  refine mkI (cc := cX0_sideAt) (maxL := 2) (ret := (some .int)) (by decide) rfl (Nat.le_of_ble_eq_true rfl) ?_
  intro p e s m below meth c A ls F hw hl
  generalize hav : ([.ref (a 6), .int x1] : List Value).toArray = av at F ⊢
  have hl : lv_has ls 2 [(0, .ref (a 6)), (1, .int x1)] := hl
  obtain ⟨hx, hb, hr, hml, hown, hts, hK, hN, hlocks, hA⟩ := id F
  have hown : s.vm.findClass RX0 = some m.cls := hown
  have htG : ∀ w ∈ tbG, w.before av s = true := fun w h => hts w (List.mem_cons_of_mem _ h)
  have f_9 := htG _ tb_165
  have hgo : ∀ P, xp_HeldWay_sideAt u x1 = P → ∀ (H : Heap) (locs : List Loc), wd D vwCl (xC a k3) A s.heap u H locs → W p l e rm_xHeldWay_sideAt s m av below meth c H locs 0 0 (QI below D vwCl (xC a k3) A av s (P, u)) (F0 m 0 ls []) := by
    intro P hP H locs hw
    refine lv_aload_n hx hb dX0_sideAt_0 rfl (lv_at hl 0 rfl) ?_
    refine va_get (D := D) (ci := 0) (v := .ref (a 28)) (C := RX0) (T := TX0) (N := 3) hx hb htG in_0 hown hK hw.1 6 (xo_6 a k3 u) rfl 0 (by decide) f_9 (fun _ h9 => h9) rfl dX0_sideAt_1 ?_
    refine lv_iload_n hx hb dX0_sideAt_4 rfl (lv_at hl 1 rfl) ?_
    have h1 := hq
    refine y_iald (t0 := 0) hx hb hK hw 15 (xo_28 a k3 u) rfl h1 dX0_sideAt_5 ?_
    exact ret_i hx hb hr hlocks hw dX0_sideAt_6 (congrArg (fun z => (z, u)) hP)
  exact hgo _ rfl s.heap [] hw
theorem dX7_way_0 : decode cX7_way 0 = .ok (.aload_n 0, 1) := by decide +kernel
theorem dX7_way_1 : decode cX7_way 1 = .ok (.getfield 26, 3) := by decide +kernel
theorem dX7_way_4 : decode cX7_way 4 = .ok (.iload_n 1, 1) := by decide +kernel
theorem dX7_way_5 : decode cX7_way 5 = .ok (.invokevirtual 129, 3) := by decide +kernel
theorem dX7_way_8 : decode cX7_way 8 = .ok (.ifCond .eq 14, 3) := by decide +kernel
theorem dX7_way_11 : decode cX7_way 11 = .ok (.aload_n 0, 1) := by decide +kernel
theorem dX7_way_12 : decode cX7_way 12 = .ok (.getfield 26, 3) := by decide +kernel
theorem dX7_way_15 : decode cX7_way 15 = .ok (.iload_n 1, 1) := by decide +kernel
theorem dX7_way_16 : decode cX7_way 16 = .ok (.invokevirtual 130, 3) := by decide +kernel
theorem dX7_way_19 : decode cX7_way 19 = .ok (.goto 4, 3) := by decide +kernel
theorem dX7_way_22 : decode cX7_way 22 = .ok (.iconst (-1), 1) := by decide +kernel
theorem dX7_way_23 : decode cX7_way 23 = .ok (.ireturn, 1) := by decide +kernel
abbrev rm_xO_way : Room := { frames := 1, cells := 0, slots := 0, locals := 21 }
def xp_O_way (u : S4) (x1 : Int32) : Int32 :=
  let r1 : Int32 := xp_HeldWay_has u x1
  if r1 = (0 : Int32) then
    (-1 : Int32)
  else
    let r4 : Int32 := xp_HeldWay_sideAt u x1
    r4
def xq_O_way (u : S4) (x1 : Int32) : Prop :=
  let r1 : Int32 := xp_HeldWay_has u x1
  (¬ r1 = (0 : Int32) →
    xq_HeldWay_sideAt u x1)
set_option maxHeartbeats 4000000 in
set_option maxRecDepth 100000 in
theorem xc_O_way (l : Launch) (D : va_G) (a : Nat → Nat) (k3 : K3) (u : S4) (x1 : Int32) (hq : xq_O_way u x1) : MI l D vwCl (ty3 k3) nestW (xC a k3) yX7_way (kX7_way :: tbG) rm_xO_way [.ref (a 0), .int x1] u (xp_O_way u x1, u) := by
  refine mkI (cc := cX7_way) (maxL := 2) (ret := (some .int)) (by decide) rfl (Nat.le_of_ble_eq_true rfl) ?_
  intro p e s m below meth c A ls F hw hl
  generalize hav : ([.ref (a 0), .int x1] : List Value).toArray = av at F ⊢
  have hl : lv_has ls 2 [(0, .ref (a 0)), (1, .int x1)] := hl
  obtain ⟨hx, hb, hr, hml, hown, hts, hK, hN, hlocks, hA⟩ := id F
  have hown : s.vm.findClass RX7 = some m.cls := hown
  have htG : ∀ w ∈ tbG, w.before av s = true := fun w h => hts w (List.mem_cons_of_mem _ h)
  have f_26 := htG _ tb_190
  have hgo : ∀ P, xp_O_way u x1 = P → ∀ (H : Heap) (locs : List Loc), wd D vwCl (xC a k3) A s.heap u H locs → W p l e rm_xO_way s m av below meth c H locs 0 0 (QI below D vwCl (xC a k3) A av s (P, u)) (F0 m 0 ls []) := by
    intro P hP H locs hw
    refine lv_aload_n hx hb dX7_way_0 rfl (lv_at hl 0 rfl) ?_
    refine va_get (D := D) (ci := 7) (v := .ref (a 6)) (C := RX7) (T := TX7) (N := 4) hx hb htG in_7 hown hK hw.1 0 (xo_0 a k3 u) rfl 2 (by decide) f_26 (fun _ h9 => h9) rfl dX7_way_1 ?_
    refine lv_iload_n hx hb dX7_way_4 rfl (lv_at hl 1 rfl) ?_
    let r1 : Int32 := xp_HeldWay_has u x1
    refine call_vir (rest := []) ⟨hx, hb, hml, hown, htG⟩ nestW_ok hK hN hA (xc_HeldWay_has l D a k3 u x1) (cwV 1 htG (tb_V tb_413 tb_414 tb_415 tb_26 tb_416) rfl rfl rfl (by decide +kernel) ⟨Nat.le_of_ble_eq_true rfl, Nat.le_of_ble_eq_true rfl⟩) (ci := 0) rfl (xo_6 a k3 u) rfl hw rfl hl.1 rfl (Nat.le_of_ble_eq_true rfl) dX7_way_5 ⟨Nat.zero_le _, Nat.zero_le _⟩ (fun H locs (hw : wd D vwCl (xC a k3) A s.heap u H locs) => ?_)
    refine lv_if_eq (tgt := 22) hx hb dX7_way_8 (by decide) (fun c2 => ?_) (fun c2 => ?_)
    · have hP := (if_pos c2).symm.trans hP
      refine lv_iconst (v := -1) hx hb dX7_way_22 (by decide) ?_
      exact ret_i hx hb hr hlocks hw dX7_way_23 (congrArg (fun z => (z, u)) hP)
    · have hP := (if_neg c2).symm.trans hP
      have hq := hq c2
      refine lv_aload_n hx hb dX7_way_11 rfl (lv_at hl 0 rfl) ?_
      refine va_get (D := D) (ci := 7) (v := .ref (a 6)) (C := RX7) (T := TX7) (N := 4) hx hb htG in_7 hown hK hw.1 0 (xo_0 a k3 u) rfl 2 (by decide) f_26 (fun _ h9 => h9) rfl dX7_way_12 ?_
      refine lv_iload_n hx hb dX7_way_15 rfl (lv_at hl 1 rfl) ?_
      have h3 := hq
      let r4 : Int32 := xp_HeldWay_sideAt u x1
      refine call_vir (rest := []) ⟨hx, hb, hml, hown, htG⟩ nestW_ok hK hN hA (xc_HeldWay_sideAt l D a k3 u x1 h3) (cwV 1 htG (tb_V tb_417 tb_418 tb_419 tb_26 tb_420) rfl rfl rfl (by decide +kernel) ⟨Nat.le_of_ble_eq_true rfl, Nat.le_of_ble_eq_true rfl⟩) (ci := 0) rfl (xo_6 a k3 u) rfl hw rfl hl.1 rfl (Nat.le_of_ble_eq_true rfl) dX7_way_16 ⟨Nat.zero_le _, Nat.zero_le _⟩ (fun H locs (hw : wd D vwCl (xC a k3) A s.heap u H locs) => ?_)
      refine lv_goto (tgt := 23) hx hb dX7_way_19 (by decide) ?_
      exact ret_i hx hb hr hlocks hw dX7_way_23 (congrArg (fun z => (z, u)) hP)
  exact hgo _ rfl s.heap [] hw
theorem dX0_secondAt_0 : decode cX0_secondAt 0 = .ok (.aload_n 0, 1) := by decide +kernel
theorem dX0_secondAt_1 : decode cX0_secondAt 1 = .ok (.getfield 15, 3) := by decide +kernel
theorem dX0_secondAt_4 : decode cX0_secondAt 4 = .ok (.iload_n 1, 1) := by decide +kernel
theorem dX0_secondAt_5 : decode cX0_secondAt 5 = .ok (.iaload, 1) := by decide +kernel
theorem dX0_secondAt_6 : decode cX0_secondAt 6 = .ok (.ireturn, 1) := by decide +kernel
abbrev rm_xHeldWay_secondAt : Room := { frames := 0, cells := 0, slots := 0, locals := 0 }
def xp_HeldWay_secondAt (u : S4) (x1 : Int32) : Int32 :=
  (s4_ra u 16 x1)
def xq_HeldWay_secondAt (u : S4) (x1 : Int32) : Prop :=
  vp_in x1 24
set_option maxHeartbeats 4000000 in
set_option maxRecDepth 100000 in
theorem xc_HeldWay_secondAt (l : Launch) (D : va_G) (a : Nat → Nat) (k3 : K3) (u : S4) (x1 : Int32) (hq : xq_HeldWay_secondAt u x1) : MI l D vwCl (ty3 k3) nestW (xC a k3) yX0_secondAt (kX0_secondAt :: tbG) rm_xHeldWay_secondAt [.ref (a 6), .int x1] u (xp_HeldWay_secondAt u x1, u) := by
  refine mkI (cc := cX0_secondAt) (maxL := 2) (ret := (some .int)) (by decide) rfl (Nat.le_of_ble_eq_true rfl) ?_
  intro p e s m below meth c A ls F hw hl
  generalize hav : ([.ref (a 6), .int x1] : List Value).toArray = av at F ⊢
  have hl : lv_has ls 2 [(0, .ref (a 6)), (1, .int x1)] := hl
  obtain ⟨hx, hb, hr, hml, hown, hts, hK, hN, hlocks, hA⟩ := id F
  have hown : s.vm.findClass RX0 = some m.cls := hown
  have htG : ∀ w ∈ tbG, w.before av s = true := fun w h => hts w (List.mem_cons_of_mem _ h)
  have f_15 := htG _ tb_166
  have hgo : ∀ P, xp_HeldWay_secondAt u x1 = P → ∀ (H : Heap) (locs : List Loc), wd D vwCl (xC a k3) A s.heap u H locs → W p l e rm_xHeldWay_secondAt s m av below meth c H locs 0 0 (QI below D vwCl (xC a k3) A av s (P, u)) (F0 m 0 ls []) := by
    intro P hP H locs hw
    refine lv_aload_n hx hb dX0_secondAt_0 rfl (lv_at hl 0 rfl) ?_
    refine va_get (D := D) (ci := 0) (v := .ref (a 29)) (C := RX0) (T := TX0) (N := 3) hx hb htG in_0 hown hK hw.1 6 (xo_6 a k3 u) rfl 1 (by decide) f_15 (fun _ h9 => h9) rfl dX0_secondAt_1 ?_
    refine lv_iload_n hx hb dX0_secondAt_4 rfl (lv_at hl 1 rfl) ?_
    have h1 := hq
    refine y_iald (t0 := 0) hx hb hK hw 16 (xo_29 a k3 u) rfl h1 dX0_secondAt_5 ?_
    exact ret_i hx hb hr hlocks hw dX0_secondAt_6 (congrArg (fun z => (z, u)) hP)
  exact hgo _ rfl s.heap [] hw
theorem dX7_begun_0 : decode cX7_begun 0 = .ok (.aload_n 0, 1) := by decide +kernel
theorem dX7_begun_1 : decode cX7_begun 1 = .ok (.getfield 26, 3) := by decide +kernel
theorem dX7_begun_4 : decode cX7_begun 4 = .ok (.iload_n 1, 1) := by decide +kernel
theorem dX7_begun_5 : decode cX7_begun 5 = .ok (.invokevirtual 129, 3) := by decide +kernel
theorem dX7_begun_8 : decode cX7_begun 8 = .ok (.ifCond .eq 14, 3) := by decide +kernel
theorem dX7_begun_11 : decode cX7_begun 11 = .ok (.aload_n 0, 1) := by decide +kernel
theorem dX7_begun_12 : decode cX7_begun 12 = .ok (.getfield 26, 3) := by decide +kernel
theorem dX7_begun_15 : decode cX7_begun 15 = .ok (.iload_n 1, 1) := by decide +kernel
theorem dX7_begun_16 : decode cX7_begun 16 = .ok (.invokevirtual 133, 3) := by decide +kernel
theorem dX7_begun_19 : decode cX7_begun 19 = .ok (.goto 4, 3) := by decide +kernel
theorem dX7_begun_22 : decode cX7_begun 22 = .ok (.iconst (-1), 1) := by decide +kernel
theorem dX7_begun_23 : decode cX7_begun 23 = .ok (.ireturn, 1) := by decide +kernel
abbrev rm_xO_begun : Room := { frames := 1, cells := 0, slots := 0, locals := 21 }
def xp_O_begun (u : S4) (x1 : Int32) : Int32 :=
  let r1 : Int32 := xp_HeldWay_has u x1
  if r1 = (0 : Int32) then
    (-1 : Int32)
  else
    let r4 : Int32 := xp_HeldWay_secondAt u x1
    r4
def xq_O_begun (u : S4) (x1 : Int32) : Prop :=
  let r1 : Int32 := xp_HeldWay_has u x1
  (¬ r1 = (0 : Int32) →
    xq_HeldWay_secondAt u x1)
set_option maxHeartbeats 4000000 in
set_option maxRecDepth 100000 in
theorem xc_O_begun (l : Launch) (D : va_G) (a : Nat → Nat) (k3 : K3) (u : S4) (x1 : Int32) (hq : xq_O_begun u x1) : MI l D vwCl (ty3 k3) nestW (xC a k3) yX7_begun (kX7_begun :: tbG) rm_xO_begun [.ref (a 0), .int x1] u (xp_O_begun u x1, u) := by
  refine mkI (cc := cX7_begun) (maxL := 2) (ret := (some .int)) (by decide) rfl (Nat.le_of_ble_eq_true rfl) ?_
  intro p e s m below meth c A ls F hw hl
  generalize hav : ([.ref (a 0), .int x1] : List Value).toArray = av at F ⊢
  have hl : lv_has ls 2 [(0, .ref (a 0)), (1, .int x1)] := hl
  obtain ⟨hx, hb, hr, hml, hown, hts, hK, hN, hlocks, hA⟩ := id F
  have hown : s.vm.findClass RX7 = some m.cls := hown
  have htG : ∀ w ∈ tbG, w.before av s = true := fun w h => hts w (List.mem_cons_of_mem _ h)
  have f_26 := htG _ tb_190
  have hgo : ∀ P, xp_O_begun u x1 = P → ∀ (H : Heap) (locs : List Loc), wd D vwCl (xC a k3) A s.heap u H locs → W p l e rm_xO_begun s m av below meth c H locs 0 0 (QI below D vwCl (xC a k3) A av s (P, u)) (F0 m 0 ls []) := by
    intro P hP H locs hw
    refine lv_aload_n hx hb dX7_begun_0 rfl (lv_at hl 0 rfl) ?_
    refine va_get (D := D) (ci := 7) (v := .ref (a 6)) (C := RX7) (T := TX7) (N := 4) hx hb htG in_7 hown hK hw.1 0 (xo_0 a k3 u) rfl 2 (by decide) f_26 (fun _ h9 => h9) rfl dX7_begun_1 ?_
    refine lv_iload_n hx hb dX7_begun_4 rfl (lv_at hl 1 rfl) ?_
    let r1 : Int32 := xp_HeldWay_has u x1
    refine call_vir (rest := []) ⟨hx, hb, hml, hown, htG⟩ nestW_ok hK hN hA (xc_HeldWay_has l D a k3 u x1) (cwV 1 htG (tb_V tb_413 tb_414 tb_415 tb_26 tb_416) rfl rfl rfl (by decide +kernel) ⟨Nat.le_of_ble_eq_true rfl, Nat.le_of_ble_eq_true rfl⟩) (ci := 0) rfl (xo_6 a k3 u) rfl hw rfl hl.1 rfl (Nat.le_of_ble_eq_true rfl) dX7_begun_5 ⟨Nat.zero_le _, Nat.zero_le _⟩ (fun H locs (hw : wd D vwCl (xC a k3) A s.heap u H locs) => ?_)
    refine lv_if_eq (tgt := 22) hx hb dX7_begun_8 (by decide) (fun c2 => ?_) (fun c2 => ?_)
    · have hP := (if_pos c2).symm.trans hP
      refine lv_iconst (v := -1) hx hb dX7_begun_22 (by decide) ?_
      exact ret_i hx hb hr hlocks hw dX7_begun_23 (congrArg (fun z => (z, u)) hP)
    · have hP := (if_neg c2).symm.trans hP
      have hq := hq c2
      refine lv_aload_n hx hb dX7_begun_11 rfl (lv_at hl 0 rfl) ?_
      refine va_get (D := D) (ci := 7) (v := .ref (a 6)) (C := RX7) (T := TX7) (N := 4) hx hb htG in_7 hown hK hw.1 0 (xo_0 a k3 u) rfl 2 (by decide) f_26 (fun _ h9 => h9) rfl dX7_begun_12 ?_
      refine lv_iload_n hx hb dX7_begun_15 rfl (lv_at hl 1 rfl) ?_
      have h3 := hq
      let r4 : Int32 := xp_HeldWay_secondAt u x1
      refine call_vir (rest := []) ⟨hx, hb, hml, hown, htG⟩ nestW_ok hK hN hA (xc_HeldWay_secondAt l D a k3 u x1 h3) (cwV 1 htG (tb_V tb_425 tb_426 tb_427 tb_26 tb_428) rfl rfl rfl (by decide +kernel) ⟨Nat.le_of_ble_eq_true rfl, Nat.le_of_ble_eq_true rfl⟩) (ci := 0) rfl (xo_6 a k3 u) rfl hw rfl hl.1 rfl (Nat.le_of_ble_eq_true rfl) dX7_begun_16 ⟨Nat.zero_le _, Nat.zero_le _⟩ (fun H locs (hw : wd D vwCl (xC a k3) A s.heap u H locs) => ?_)
      refine lv_goto (tgt := 23) hx hb dX7_begun_19 (by decide) ?_
      exact ret_i hx hb hr hlocks hw dX7_begun_23 (congrArg (fun z => (z, u)) hP)
  exact hgo _ rfl s.heap [] hw
theorem dX4_stepOnFrom_0 : decode cX4_stepOnFrom 0 = .ok (.iconst 0, 1) := by decide +kernel
theorem dX4_stepOnFrom_1 : decode cX4_stepOnFrom 1 = .ok (.istore_n 3, 1) := by decide +kernel
theorem dX4_stepOnFrom_2 : decode cX4_stepOnFrom 2 = .ok (.iload_n 3, 1) := by decide +kernel
theorem dX4_stepOnFrom_3 : decode cX4_stepOnFrom 3 = .ok (.aload_n 1, 1) := by decide +kernel
theorem dX4_stepOnFrom_4 : decode cX4_stepOnFrom 4 = .ok (.getfield 35, 3) := by decide +kernel
theorem dX4_stepOnFrom_7 : decode cX4_stepOnFrom 7 = .ok (.invokevirtual 41, 3) := by decide +kernel
theorem dX4_stepOnFrom_10 : decode cX4_stepOnFrom 10 = .ok (.if_icmp .ge 42, 3) := by decide +kernel
theorem dX4_stepOnFrom_13 : decode cX4_stepOnFrom 13 = .ok (.aload_n 0, 1) := by decide +kernel
theorem dX4_stepOnFrom_14 : decode cX4_stepOnFrom 14 = .ok (.getfield 25, 3) := by decide +kernel
theorem dX4_stepOnFrom_17 : decode cX4_stepOnFrom 17 = .ok (.iload_n 3, 1) := by decide +kernel
theorem dX4_stepOnFrom_18 : decode cX4_stepOnFrom 18 = .ok (.iaload, 1) := by decide +kernel
theorem dX4_stepOnFrom_19 : decode cX4_stepOnFrom 19 = .ok (.iconst (-1), 1) := by decide +kernel
theorem dX4_stepOnFrom_20 : decode cX4_stepOnFrom 20 = .ok (.if_icmp .ne 26, 3) := by decide +kernel
theorem dX4_stepOnFrom_23 : decode cX4_stepOnFrom 23 = .ok (.aload_n 1, 1) := by decide +kernel
theorem dX4_stepOnFrom_24 : decode cX4_stepOnFrom 24 = .ok (.iload_n 2, 1) := by decide +kernel
theorem dX4_stepOnFrom_25 : decode cX4_stepOnFrom 25 = .ok (.iload_n 3, 1) := by decide +kernel
theorem dX4_stepOnFrom_26 : decode cX4_stepOnFrom 26 = .ok (.invokevirtual 79, 3) := by decide +kernel
theorem dX4_stepOnFrom_29 : decode cX4_stepOnFrom 29 = .ok (.ifCond .eq 17, 3) := by decide +kernel
theorem dX4_stepOnFrom_32 : decode cX4_stepOnFrom 32 = .ok (.aload_n 0, 1) := by decide +kernel
theorem dX4_stepOnFrom_33 : decode cX4_stepOnFrom 33 = .ok (.getfield 25, 3) := by decide +kernel
theorem dX4_stepOnFrom_36 : decode cX4_stepOnFrom 36 = .ok (.iload_n 3, 1) := by decide +kernel
theorem dX4_stepOnFrom_37 : decode cX4_stepOnFrom 37 = .ok (.aload_n 0, 1) := by decide +kernel
theorem dX4_stepOnFrom_38 : decode cX4_stepOnFrom 38 = .ok (.getfield 25, 3) := by decide +kernel
theorem dX4_stepOnFrom_41 : decode cX4_stepOnFrom 41 = .ok (.iload_n 2, 1) := by decide +kernel
theorem dX4_stepOnFrom_42 : decode cX4_stepOnFrom 42 = .ok (.iaload, 1) := by decide +kernel
theorem dX4_stepOnFrom_43 : decode cX4_stepOnFrom 43 = .ok (.iconst 1, 1) := by decide +kernel
theorem dX4_stepOnFrom_44 : decode cX4_stepOnFrom 44 = .ok (.iadd, 1) := by decide +kernel
theorem dX4_stepOnFrom_45 : decode cX4_stepOnFrom 45 = .ok (.iastore, 1) := by decide +kernel
theorem dX4_stepOnFrom_46 : decode cX4_stepOnFrom 46 = .ok (.iinc 3 1, 3) := by decide +kernel
theorem dX4_stepOnFrom_49 : decode cX4_stepOnFrom 49 = .ok (.goto (-47), 3) := by decide +kernel
theorem dX4_stepOnFrom_52 : decode cX4_stepOnFrom 52 = .ok (.return_, 1) := by decide +kernel
abbrev rm_xSearch_stepOnFrom : Room := { frames := 3, cells := 0, slots := 0, locals := 69 }
def xB_Search_stepOnFrom_2 (K2 : S4 → Int32 → Int32 → S4) (u : S4) (y2 : Int32) (y3 : Int32) : S4 :=
  let r1 : Int32 := xp_Streets_sides u
  if r1 ≤ y3 then
    u
  else
    if (s4_ra u 14 y3) = (-1 : Int32) then
      let r7 : Int32 := xp_Net_goesOn u y2 y3
      if r7 = (0 : Int32) then
        let v9 : Int32 := (y3 + (1 : Int32))
        K2 u y2 v9
      else
        let u12 : S4 := s4_wa u 14 y3 ((s4_ra u 14 y2) + (1 : Int32))
        let v13 : Int32 := (y3 + (1 : Int32))
        K2 u12 y2 v13
    else
      let v5 : Int32 := (y3 + (1 : Int32))
      K2 u y2 v5
def xL_Search_stepOnFrom_2 : Nat → S4 → Int32 → Int32 → S4
  | 0 => fun u _ _ => u
  | n + 1 => xB_Search_stepOnFrom_2 (xL_Search_stepOnFrom_2 n)
def xBq_Search_stepOnFrom_2 (Q2 : S4 → Int32 → Int32 → Prop) (u : S4) (y2 : Int32) (y3 : Int32) : Prop :=
  let r1 : Int32 := xp_Streets_sides u
  (¬ r1 ≤ y3 →
    vp_in y3 24 ∧
    (((s4_ra u 14 y3) = (-1 : Int32) →
      xq_Net_goesOn u y2 y3 ∧
      let r7 : Int32 := xp_Net_goesOn u y2 y3
      ((r7 = (0 : Int32) →
        let v9 : Int32 := (y3 + (1 : Int32))
        Q2 u y2 v9) ∧ (¬ r7 = (0 : Int32) →
        vp_in y2 24 ∧
        vp_in y3 24 ∧
        let u12 : S4 := s4_wa u 14 y3 ((s4_ra u 14 y2) + (1 : Int32))
        let v13 : Int32 := (y3 + (1 : Int32))
        Q2 u12 y2 v13))) ∧ (¬ (s4_ra u 14 y3) = (-1 : Int32) →
      let v5 : Int32 := (y3 + (1 : Int32))
      Q2 u y2 v5)))
def xLq_Search_stepOnFrom_2 : Nat → S4 → Int32 → Int32 → Prop
  | 0 => fun _ _ _ => False
  | n + 1 => xBq_Search_stepOnFrom_2 (xLq_Search_stepOnFrom_2 n)
set_option maxHeartbeats 4000000 in
set_option maxRecDepth 100000 in
theorem xs_Search_stepOnFrom_2 (l : Launch) (D : va_G) (a : Nat → Nat) (k3 : K3) {p : Program} {e : Env} {s : State} {m : MethodId} {below : List Frame} {meth : Method} {c : Code} {A : Nat → Prop} (av : Array Value) (F : Fx p s m meth c av cX4_stepOnFrom 4 none yX4_stepOnFrom.cls (kX4_stepOnFrom :: tbG) D vwCl (ty3 k3) nestW A) (P : S4) (K2 : S4 → Int32 → Int32 → S4) (Q2 : S4 → Int32 → Int32 → Prop) (hK2 : ∀ (u : S4) (y2 : Int32) (y3 : Int32) (H : Heap) (locs : List Loc) (ls : Array Slot), Q2 u y2 y3 → K2 u y2 y3 = P → wd D vwCl (xC a k3) A s.heap u H locs → lv_has ls 4 [(0, .ref (a 5)), (1, .ref (a 1)), (2, .int y2), (3, .int y3)] → W p l e rm_xSearch_stepOnFrom s m av below meth c H locs 0 0 (QV below D vwCl (xC a k3) A av s P) (F0 m 2 ls [])) : ∀ (u : S4) (y2 : Int32) (y3 : Int32) (H : Heap) (locs : List Loc) (ls : Array Slot), xBq_Search_stepOnFrom_2 Q2 u y2 y3 → xB_Search_stepOnFrom_2 K2 u y2 y3 = P → wd D vwCl (xC a k3) A s.heap u H locs → lv_has ls 4 [(0, .ref (a 5)), (1, .ref (a 1)), (2, .int y2), (3, .int y3)] → W p l e rm_xSearch_stepOnFrom s m av below meth c H locs 0 0 (QV below D vwCl (xC a k3) A av s P) (F0 m 2 ls []) := by
  obtain ⟨hx, hb, hr, hml, hown, hts, hK, hN, hlocks, hA⟩ := id F
  have hown : s.vm.findClass RX4 = some m.cls := hown
  have htG : ∀ w ∈ tbG, w.before av s = true := fun w h => hts w (List.mem_cons_of_mem _ h)
  have f_35 := va_Nw.use (A := av) rfl (hN _ nw_5)
  have f_25 := htG _ tb_144
  intro u y2 y3 H locs ls hq hP hw hl
  refine lv_iload_n hx hb dX4_stepOnFrom_2 rfl (lv_at hl 3 rfl) ?_
  refine lv_aload_n hx hb dX4_stepOnFrom_3 rfl (lv_at hl 1 rfl) ?_
  refine va_getN (D := D) (ci := 2) (v := .ref (a 3)) (C := RX2) (T := TX2) (N := 5) hx hb htG in_2 hown hK hw.1 1 (xo_1 a k3 u) rfl 1 (by decide) f_35 (fun _ h9 => h9) rfl dX4_stepOnFrom_4 ?_
  let r1 : Int32 := xp_Streets_sides u
  refine call_vir (rest := [.int y3]) ⟨hx, hb, hml, hown, htG⟩ nestW_ok hK hN hA (xc_Streets_sides l D a k3 u) (cwV 0 htG (tb_V tb_311 tb_312 tb_313 tb_23 tb_314) rfl rfl rfl (by decide +kernel) ⟨Nat.le_of_ble_eq_true rfl, Nat.le_of_ble_eq_true rfl⟩) (ci := 5) rfl (xo_3 a k3 u) rfl hw rfl hl.1 rfl (Nat.le_of_ble_eq_true rfl) dX4_stepOnFrom_7 ⟨Nat.zero_le _, Nat.zero_le _⟩ (fun H locs (hw : wd D vwCl (xC a k3) A s.heap u H locs) => ?_)
  refine lv_icmp_ge (tgt := 52) hx hb dX4_stepOnFrom_10 (by decide) (fun c2 => ?_) (fun c2 => ?_)
  · have hP := (if_pos c2).symm.trans hP
    exact ret_v hx hb hr hlocks hw dX4_stepOnFrom_52 hP
  · have hP := (if_neg c2).symm.trans hP
    have hq := hq c2
    refine lv_aload_n hx hb dX4_stepOnFrom_13 rfl (lv_at hl 0 rfl) ?_
    refine va_get (D := D) (ci := 4) (v := .ref (a 27)) (C := RX4) (T := TX4) (N := 6) hx hb htG in_4 hown hK hw.1 5 (xo_5 a k3 u) rfl 4 (by decide) f_25 (fun _ h9 => h9) rfl dX4_stepOnFrom_14 ?_
    refine lv_iload_n hx hb dX4_stepOnFrom_17 rfl (lv_at hl 3 rfl) ?_
    obtain ⟨h3, hq⟩ := hq
    refine y_iald (t0 := 0) hx hb hK hw 14 (xo_27 a k3 u) rfl h3 dX4_stepOnFrom_18 ?_
    refine lv_iconst (v := -1) hx hb dX4_stepOnFrom_19 (by decide) ?_
    refine lv_icmp_ne (tgt := 46) hx hb dX4_stepOnFrom_20 (by decide) (fun c4 => ?_) (fun c4 => ?_)
    · have hP := (if_neg c4).symm.trans hP
      have hq := hq.2 c4
      let v5 : Int32 := (y3 + (1 : Int32))
      refine lv_iinc (v := v5) (lv' := [(3, .int v5), (0, .ref (a 5)), (1, .ref (a 1)), (2, .int y2)]) hx hb dX4_stepOnFrom_46 hl (k := 3) rfl rfl (by decide) rfl (fun ls hl => ?_)
      refine lv_goto (tgt := 2) hx hb dX4_stepOnFrom_49 (by decide) ?_
      exact hK2 u (y2) (v5) H locs ls hq hP hw (lv_sub hl [1, 2, 3, 0] rfl)
    · have hP := (if_pos c4).symm.trans hP
      have hq := hq.1 c4
      refine lv_aload_n hx hb dX4_stepOnFrom_23 rfl (lv_at hl 1 rfl) ?_
      refine lv_iload_n hx hb dX4_stepOnFrom_24 rfl (lv_at hl 2 rfl) ?_
      refine lv_iload_n hx hb dX4_stepOnFrom_25 rfl (lv_at hl 3 rfl) ?_
      obtain ⟨h6, hq⟩ := hq
      let r7 : Int32 := xp_Net_goesOn u y2 y3
      refine call_vir (rest := []) ⟨hx, hb, hml, hown, htG⟩ nestW_ok hK hN hA (xc_Net_goesOn l D a k3 u y2 y3 h6) (cwV 2 htG (tb_V tb_441 tb_328 tb_329 tb_21 tb_330) rfl rfl rfl (by decide +kernel) ⟨Nat.le_of_ble_eq_true rfl, Nat.le_of_ble_eq_true rfl⟩) (ci := 2) rfl (xo_1 a k3 u) rfl hw rfl hl.1 rfl (Nat.le_of_ble_eq_true rfl) dX4_stepOnFrom_26 ⟨Nat.zero_le _, Nat.zero_le _⟩ (fun H locs (hw : wd D vwCl (xC a k3) A s.heap u H locs) => ?_)
      refine lv_if_eq (tgt := 46) hx hb dX4_stepOnFrom_29 (by decide) (fun c8 => ?_) (fun c8 => ?_)
      · have hP := (if_pos c8).symm.trans hP
        have hq := hq.1 c8
        let v9 : Int32 := (y3 + (1 : Int32))
        refine lv_iinc (v := v9) (lv' := [(3, .int v9), (0, .ref (a 5)), (1, .ref (a 1)), (2, .int y2)]) hx hb dX4_stepOnFrom_46 hl (k := 3) rfl rfl (by decide) rfl (fun ls hl => ?_)
        refine lv_goto (tgt := 2) hx hb dX4_stepOnFrom_49 (by decide) ?_
        exact hK2 u (y2) (v9) H locs ls hq hP hw (lv_sub hl [1, 2, 3, 0] rfl)
      · have hP := (if_neg c8).symm.trans hP
        have hq := hq.2 c8
        refine lv_aload_n hx hb dX4_stepOnFrom_32 rfl (lv_at hl 0 rfl) ?_
        refine va_get (D := D) (ci := 4) (v := .ref (a 27)) (C := RX4) (T := TX4) (N := 6) hx hb htG in_4 hown hK hw.1 5 (xo_5 a k3 u) rfl 4 (by decide) f_25 (fun _ h9 => h9) rfl dX4_stepOnFrom_33 ?_
        refine lv_iload_n hx hb dX4_stepOnFrom_36 rfl (lv_at hl 3 rfl) ?_
        refine lv_aload_n hx hb dX4_stepOnFrom_37 rfl (lv_at hl 0 rfl) ?_
        refine va_get (D := D) (ci := 4) (v := .ref (a 27)) (C := RX4) (T := TX4) (N := 6) hx hb htG in_4 hown hK hw.1 5 (xo_5 a k3 u) rfl 4 (by decide) f_25 (fun _ h9 => h9) rfl dX4_stepOnFrom_38 ?_
        refine lv_iload_n hx hb dX4_stepOnFrom_41 rfl (lv_at hl 2 rfl) ?_
        obtain ⟨h10, hq⟩ := hq
        refine y_iald (t0 := 0) hx hb hK hw 14 (xo_27 a k3 u) rfl h10 dX4_stepOnFrom_42 ?_
        refine lv_iconst (v := 1) hx hb dX4_stepOnFrom_43 (by decide) ?_
        refine lv_iadd hx hb dX4_stepOnFrom_44 ?_
        obtain ⟨h11, hq⟩ := hq
        let u12 : S4 := s4_wa u 14 y3 ((s4_ra u 14 y2) + (1 : Int32))
        refine y_iast (t0 := 0) hx hb hK hw 14 (xo_27 a k3 u) (xq_27 a k3 u) rfl h11 dX4_stepOnFrom_45 (fun H locs (hw : wd D vwCl (xC a k3) A s.heap u12 H locs) => ?_)
        let v13 : Int32 := (y3 + (1 : Int32))
        refine lv_iinc (v := v13) (lv' := [(3, .int v13), (0, .ref (a 5)), (1, .ref (a 1)), (2, .int y2)]) hx hb dX4_stepOnFrom_46 hl (k := 3) rfl rfl (by decide) rfl (fun ls hl => ?_)
        refine lv_goto (tgt := 2) hx hb dX4_stepOnFrom_49 (by decide) ?_
        exact hK2 u12 (y2) (v13) H locs ls hq hP hw (lv_sub hl [1, 2, 3, 0] rfl)
set_option maxHeartbeats 4000000 in
set_option maxRecDepth 100000 in
theorem xw_Search_stepOnFrom_2 (l : Launch) (D : va_G) (a : Nat → Nat) (k3 : K3) {p : Program} {e : Env} {s : State} {m : MethodId} {below : List Frame} {meth : Method} {c : Code} {A : Nat → Prop} (av : Array Value) (F : Fx p s m meth c av cX4_stepOnFrom 4 none yX4_stepOnFrom.cls (kX4_stepOnFrom :: tbG) D vwCl (ty3 k3) nestW A) (P : S4) : ∀ (n : Nat), ∀ (u : S4) (y2 : Int32) (y3 : Int32) (H : Heap) (locs : List Loc) (ls : Array Slot), xLq_Search_stepOnFrom_2 n u y2 y3 → xL_Search_stepOnFrom_2 n u y2 y3 = P → wd D vwCl (xC a k3) A s.heap u H locs → lv_has ls 4 [(0, .ref (a 5)), (1, .ref (a 1)), (2, .int y2), (3, .int y3)] → W p l e rm_xSearch_stepOnFrom s m av below meth c H locs 0 0 (QV below D vwCl (xC a k3) A av s P) (F0 m 2 ls []) := by
  intro n
  induction n with
  | zero => intro u y2 y3 H locs ls hq hP hw hl; exact hq.elim
  | succ n ih => intro u y2 y3 H locs ls hq hP hw hl; exact xs_Search_stepOnFrom_2 l D a k3 av F P (xL_Search_stepOnFrom_2 n) (xLq_Search_stepOnFrom_2 n) ih u y2 y3 H locs ls hq hP hw hl
def xp_Search_stepOnFrom (u : S4) (x2 : Int32) : S4 :=
  xL_Search_stepOnFrom_2 64 u x2 (0 : Int32)
def xq_Search_stepOnFrom (u : S4) (x2 : Int32) : Prop :=
  xLq_Search_stepOnFrom_2 64 u x2 (0 : Int32)
set_option maxHeartbeats 4000000 in
set_option maxRecDepth 100000 in
theorem xc_Search_stepOnFrom (l : Launch) (D : va_G) (a : Nat → Nat) (k3 : K3) (u : S4) (x2 : Int32) (hq : xq_Search_stepOnFrom u x2) : MV l D vwCl (ty3 k3) nestW (xC a k3) yX4_stepOnFrom (kX4_stepOnFrom :: tbG) rm_xSearch_stepOnFrom [.ref (a 5), .ref (a 1), .int x2] u (xp_Search_stepOnFrom u x2) := by
  refine mkV (cc := cX4_stepOnFrom) (maxL := 4) (ret := none) (by decide) rfl (Nat.le_of_ble_eq_true rfl) ?_
  intro p e s m below meth c A ls F hw hl
  generalize hav : ([.ref (a 5), .ref (a 1), .int x2] : List Value).toArray = av at F ⊢
  have hl : lv_has ls 4 [(0, .ref (a 5)), (1, .ref (a 1)), (2, .int x2)] := hl
  obtain ⟨hx, hb, hr, hml, hown, hts, hK, hN, hlocks, hA⟩ := id F
  have hown : s.vm.findClass RX4 = some m.cls := hown
  have htG : ∀ w ∈ tbG, w.before av s = true := fun w h => hts w (List.mem_cons_of_mem _ h)
  have hgo : ∀ P, xp_Search_stepOnFrom u x2 = P → ∀ (H : Heap) (locs : List Loc), wd D vwCl (xC a k3) A s.heap u H locs → W p l e rm_xSearch_stepOnFrom s m av below meth c H locs 0 0 (QV below D vwCl (xC a k3) A av s P) (F0 m 0 ls []) := by
    intro P hP H locs hw
    refine lv_iconst (v := 0) hx hb dX4_stepOnFrom_0 (by decide) ?_
    refine lv_istore_n (lv' := [(3, .int (0 : Int32)), (0, .ref (a 5)), (1, .ref (a 1)), (2, .int x2)]) hx hb dX4_stepOnFrom_1 rfl hl (by decide) rfl (fun ls hl => ?_)
    exact xw_Search_stepOnFrom_2 l D a k3 av F P 64 u x2 (0 : Int32) H locs ls hq hP hw (lv_sub hl [1, 2, 3, 0] rfl)
  exact hgo _ rfl s.heap [] hw
theorem dX4_fewestSides_0 : decode cX4_fewestSides 0 = .ok (.aload_n 1, 1) := by decide +kernel
theorem dX4_fewestSides_1 : decode cX4_fewestSides 1 = .ok (.getfield 35, 3) := by decide +kernel
theorem dX4_fewestSides_4 : decode cX4_fewestSides 4 = .ok (.invokevirtual 41, 3) := by decide +kernel
theorem dX4_fewestSides_7 : decode cX4_fewestSides 7 = .ok (.istore 4, 2) := by decide +kernel
theorem dX4_fewestSides_9 : decode cX4_fewestSides 9 = .ok (.iconst 0, 1) := by decide +kernel
theorem dX4_fewestSides_10 : decode cX4_fewestSides 10 = .ok (.istore 5, 2) := by decide +kernel
theorem dX4_fewestSides_12 : decode cX4_fewestSides 12 = .ok (.iload 5, 2) := by decide +kernel
theorem dX4_fewestSides_14 : decode cX4_fewestSides 14 = .ok (.iload 4, 2) := by decide +kernel
theorem dX4_fewestSides_16 : decode cX4_fewestSides 16 = .ok (.if_icmp .ge 17, 3) := by decide +kernel
theorem dX4_fewestSides_19 : decode cX4_fewestSides 19 = .ok (.aload_n 0, 1) := by decide +kernel
theorem dX4_fewestSides_20 : decode cX4_fewestSides 20 = .ok (.getfield 25, 3) := by decide +kernel
theorem dX4_fewestSides_23 : decode cX4_fewestSides 23 = .ok (.iload 5, 2) := by decide +kernel
theorem dX4_fewestSides_25 : decode cX4_fewestSides 25 = .ok (.iconst (-1), 1) := by decide +kernel
theorem dX4_fewestSides_26 : decode cX4_fewestSides 26 = .ok (.iastore, 1) := by decide +kernel
theorem dX4_fewestSides_27 : decode cX4_fewestSides 27 = .ok (.iinc 5 1, 3) := by decide +kernel
theorem dX4_fewestSides_30 : decode cX4_fewestSides 30 = .ok (.goto (-18), 3) := by decide +kernel
theorem dX4_fewestSides_33 : decode cX4_fewestSides 33 = .ok (.aload_n 0, 1) := by decide +kernel
theorem dX4_fewestSides_34 : decode cX4_fewestSides 34 = .ok (.getfield 25, 3) := by decide +kernel
theorem dX4_fewestSides_37 : decode cX4_fewestSides 37 = .ok (.iload_n 2, 1) := by decide +kernel
theorem dX4_fewestSides_38 : decode cX4_fewestSides 38 = .ok (.iconst 0, 1) := by decide +kernel
theorem dX4_fewestSides_39 : decode cX4_fewestSides 39 = .ok (.iastore, 1) := by decide +kernel
theorem dX4_fewestSides_40 : decode cX4_fewestSides 40 = .ok (.iconst 0, 1) := by decide +kernel
theorem dX4_fewestSides_41 : decode cX4_fewestSides 41 = .ok (.istore 5, 2) := by decide +kernel
theorem dX4_fewestSides_43 : decode cX4_fewestSides 43 = .ok (.iload 5, 2) := by decide +kernel
theorem dX4_fewestSides_45 : decode cX4_fewestSides 45 = .ok (.iload 4, 2) := by decide +kernel
theorem dX4_fewestSides_47 : decode cX4_fewestSides 47 = .ok (.if_icmp .ge 54, 3) := by decide +kernel
theorem dX4_fewestSides_50 : decode cX4_fewestSides 50 = .ok (.aload_n 0, 1) := by decide +kernel
theorem dX4_fewestSides_51 : decode cX4_fewestSides 51 = .ok (.getfield 25, 3) := by decide +kernel
theorem dX4_fewestSides_54 : decode cX4_fewestSides 54 = .ok (.iload_n 3, 1) := by decide +kernel
theorem dX4_fewestSides_55 : decode cX4_fewestSides 55 = .ok (.iaload, 1) := by decide +kernel
theorem dX4_fewestSides_56 : decode cX4_fewestSides 56 = .ok (.iconst (-1), 1) := by decide +kernel
theorem dX4_fewestSides_57 : decode cX4_fewestSides 57 = .ok (.if_icmp .ne 44, 3) := by decide +kernel
theorem dX4_fewestSides_60 : decode cX4_fewestSides 60 = .ok (.iconst 0, 1) := by decide +kernel
theorem dX4_fewestSides_61 : decode cX4_fewestSides 61 = .ok (.istore 6, 2) := by decide +kernel
theorem dX4_fewestSides_63 : decode cX4_fewestSides 63 = .ok (.iload 6, 2) := by decide +kernel
theorem dX4_fewestSides_65 : decode cX4_fewestSides 65 = .ok (.iload 4, 2) := by decide +kernel
theorem dX4_fewestSides_67 : decode cX4_fewestSides 67 = .ok (.if_icmp .ge 28, 3) := by decide +kernel
theorem dX4_fewestSides_70 : decode cX4_fewestSides 70 = .ok (.aload_n 0, 1) := by decide +kernel
theorem dX4_fewestSides_71 : decode cX4_fewestSides 71 = .ok (.getfield 25, 3) := by decide +kernel
theorem dX4_fewestSides_74 : decode cX4_fewestSides 74 = .ok (.iload 6, 2) := by decide +kernel
theorem dX4_fewestSides_76 : decode cX4_fewestSides 76 = .ok (.iaload, 1) := by decide +kernel
theorem dX4_fewestSides_77 : decode cX4_fewestSides 77 = .ok (.iload 5, 2) := by decide +kernel
theorem dX4_fewestSides_79 : decode cX4_fewestSides 79 = .ok (.if_icmp .ne 10, 3) := by decide +kernel
theorem dX4_fewestSides_82 : decode cX4_fewestSides 82 = .ok (.aload_n 0, 1) := by decide +kernel
theorem dX4_fewestSides_83 : decode cX4_fewestSides 83 = .ok (.aload_n 1, 1) := by decide +kernel
theorem dX4_fewestSides_84 : decode cX4_fewestSides 84 = .ok (.iload 6, 2) := by decide +kernel
theorem dX4_fewestSides_86 : decode cX4_fewestSides 86 = .ok (.invokevirtual 76, 3) := by decide +kernel
theorem dX4_fewestSides_89 : decode cX4_fewestSides 89 = .ok (.iinc 6 1, 3) := by decide +kernel
theorem dX4_fewestSides_92 : decode cX4_fewestSides 92 = .ok (.goto (-29), 3) := by decide +kernel
theorem dX4_fewestSides_95 : decode cX4_fewestSides 95 = .ok (.iinc 5 1, 3) := by decide +kernel
theorem dX4_fewestSides_98 : decode cX4_fewestSides 98 = .ok (.goto (-55), 3) := by decide +kernel
theorem dX4_fewestSides_101 : decode cX4_fewestSides 101 = .ok (.aload_n 0, 1) := by decide +kernel
theorem dX4_fewestSides_102 : decode cX4_fewestSides 102 = .ok (.getfield 25, 3) := by decide +kernel
theorem dX4_fewestSides_105 : decode cX4_fewestSides 105 = .ok (.iload_n 3, 1) := by decide +kernel
theorem dX4_fewestSides_106 : decode cX4_fewestSides 106 = .ok (.iaload, 1) := by decide +kernel
theorem dX4_fewestSides_107 : decode cX4_fewestSides 107 = .ok (.ireturn, 1) := by decide +kernel
abbrev rm_xSearch_fewestSides : Room := { frames := 4, cells := 0, slots := 0, locals := 92 }
def xB_Search_fewestSides_63 (K43 : S4 → Int32 → Int32 → Int32 → (Int32 × S4)) (K63 : S4 → Int32 → Int32 → Int32 → Int32 → (Int32 × S4)) (u : S4) (y3 : Int32) (y4 : Int32) (y5 : Int32) (y6 : Int32) : Int32 × S4 :=
  if y4 ≤ y6 then
    let v11 : Int32 := (y5 + (1 : Int32))
    K43 u y3 y4 v11
  else
    if (s4_ra u 14 y6) = y5 then
      let u16 : S4 := xp_Search_stepOnFrom u y6
      let v17 : Int32 := (y6 + (1 : Int32))
      K63 u16 y3 y4 y5 v17
    else
      let v14 : Int32 := (y6 + (1 : Int32))
      K63 u y3 y4 y5 v14
def xL_Search_fewestSides_63 (K43 : S4 → Int32 → Int32 → Int32 → (Int32 × S4)) : Nat → S4 → Int32 → Int32 → Int32 → Int32 → (Int32 × S4)
  | 0 => fun u _ _ _ _ => (0, u)
  | n + 1 => xB_Search_fewestSides_63 K43 (xL_Search_fewestSides_63 K43 n)
def xBq_Search_fewestSides_63 (Q43 : S4 → Int32 → Int32 → Int32 → Prop) (Q63 : S4 → Int32 → Int32 → Int32 → Int32 → Prop) (u : S4) (y3 : Int32) (y4 : Int32) (y5 : Int32) (y6 : Int32) : Prop :=
  ((y4 ≤ y6 →
    let v11 : Int32 := (y5 + (1 : Int32))
    Q43 u y3 y4 v11) ∧ (¬ y4 ≤ y6 →
    vp_in y6 24 ∧
    (((s4_ra u 14 y6) = y5 →
      xq_Search_stepOnFrom u y6 ∧
      let u16 : S4 := xp_Search_stepOnFrom u y6
      let v17 : Int32 := (y6 + (1 : Int32))
      Q63 u16 y3 y4 y5 v17) ∧ (¬ (s4_ra u 14 y6) = y5 →
      let v14 : Int32 := (y6 + (1 : Int32))
      Q63 u y3 y4 y5 v14))))
def xLq_Search_fewestSides_63 (Q43 : S4 → Int32 → Int32 → Int32 → Prop) : Nat → S4 → Int32 → Int32 → Int32 → Int32 → Prop
  | 0 => fun _ _ _ _ _ => False
  | n + 1 => xBq_Search_fewestSides_63 Q43 (xLq_Search_fewestSides_63 Q43 n)
set_option maxHeartbeats 4000000 in
set_option maxRecDepth 100000 in
theorem xs_Search_fewestSides_63 (l : Launch) (D : va_G) (a : Nat → Nat) (k3 : K3) {p : Program} {e : Env} {s : State} {m : MethodId} {below : List Frame} {meth : Method} {c : Code} {A : Nat → Prop} (av : Array Value) (F : Fx p s m meth c av cX4_fewestSides 7 (some .int) yX4_fewestSides.cls (kX4_fewestSides :: tbG) D vwCl (ty3 k3) nestW A) (P : Int32 × S4) (K43 : S4 → Int32 → Int32 → Int32 → (Int32 × S4)) (Q43 : S4 → Int32 → Int32 → Int32 → Prop) (hK43 : ∀ (u : S4) (y3 : Int32) (y4 : Int32) (y5 : Int32) (H : Heap) (locs : List Loc) (ls : Array Slot), Q43 u y3 y4 y5 → K43 u y3 y4 y5 = P → wd D vwCl (xC a k3) A s.heap u H locs → lv_has ls 7 [(0, .ref (a 5)), (1, .ref (a 1)), (3, .int y3), (4, .int y4), (5, .int y5)] → W p l e rm_xSearch_fewestSides s m av below meth c H locs 0 0 (QI below D vwCl (xC a k3) A av s P) (F0 m 43 ls [])) (K63 : S4 → Int32 → Int32 → Int32 → Int32 → (Int32 × S4)) (Q63 : S4 → Int32 → Int32 → Int32 → Int32 → Prop) (hK63 : ∀ (u : S4) (y3 : Int32) (y4 : Int32) (y5 : Int32) (y6 : Int32) (H : Heap) (locs : List Loc) (ls : Array Slot), Q63 u y3 y4 y5 y6 → K63 u y3 y4 y5 y6 = P → wd D vwCl (xC a k3) A s.heap u H locs → lv_has ls 7 [(0, .ref (a 5)), (1, .ref (a 1)), (3, .int y3), (4, .int y4), (5, .int y5), (6, .int y6)] → W p l e rm_xSearch_fewestSides s m av below meth c H locs 0 0 (QI below D vwCl (xC a k3) A av s P) (F0 m 63 ls [])) : ∀ (u : S4) (y3 : Int32) (y4 : Int32) (y5 : Int32) (y6 : Int32) (H : Heap) (locs : List Loc) (ls : Array Slot), xBq_Search_fewestSides_63 Q43 Q63 u y3 y4 y5 y6 → xB_Search_fewestSides_63 K43 K63 u y3 y4 y5 y6 = P → wd D vwCl (xC a k3) A s.heap u H locs → lv_has ls 7 [(0, .ref (a 5)), (1, .ref (a 1)), (3, .int y3), (4, .int y4), (5, .int y5), (6, .int y6)] → W p l e rm_xSearch_fewestSides s m av below meth c H locs 0 0 (QI below D vwCl (xC a k3) A av s P) (F0 m 63 ls []) := by
  obtain ⟨hx, hb, hr, hml, hown, hts, hK, hN, hlocks, hA⟩ := id F
  have hown : s.vm.findClass RX4 = some m.cls := hown
  have htG : ∀ w ∈ tbG, w.before av s = true := fun w h => hts w (List.mem_cons_of_mem _ h)
  have f_25 := htG _ tb_144
  intro u y3 y4 y5 y6 H locs ls hq hP hw hl
  refine lv_iload hx hb dX4_fewestSides_63 (lv_at hl 5 rfl) ?_
  refine lv_iload hx hb dX4_fewestSides_65 (lv_at hl 3 rfl) ?_
  refine lv_icmp_ge (tgt := 95) hx hb dX4_fewestSides_67 (by decide) (fun c10 => ?_) (fun c10 => ?_)
  · have hP := (if_pos c10).symm.trans hP
    have hq := hq.1 c10
    let v11 : Int32 := (y5 + (1 : Int32))
    refine lv_iinc (v := v11) (lv' := [(5, .int v11), (0, .ref (a 5)), (1, .ref (a 1)), (3, .int y3), (4, .int y4), (6, .int y6)]) hx hb dX4_fewestSides_95 hl (k := 4) rfl rfl (by decide) rfl (fun ls hl => ?_)
    refine lv_goto (tgt := 43) hx hb dX4_fewestSides_98 (by decide) ?_
    exact hK43 u (y3) (y4) (v11) H locs ls hq hP hw (lv_sub hl [1, 2, 3, 4, 0] rfl)
  · have hP := (if_neg c10).symm.trans hP
    have hq := hq.2 c10
    refine lv_aload_n hx hb dX4_fewestSides_70 rfl (lv_at hl 0 rfl) ?_
    refine va_get (D := D) (ci := 4) (v := .ref (a 27)) (C := RX4) (T := TX4) (N := 6) hx hb htG in_4 hown hK hw.1 5 (xo_5 a k3 u) rfl 4 (by decide) f_25 (fun _ h9 => h9) rfl dX4_fewestSides_71 ?_
    refine lv_iload hx hb dX4_fewestSides_74 (lv_at hl 5 rfl) ?_
    obtain ⟨h12, hq⟩ := hq
    refine y_iald (t0 := 0) hx hb hK hw 14 (xo_27 a k3 u) rfl h12 dX4_fewestSides_76 ?_
    refine lv_iload hx hb dX4_fewestSides_77 (lv_at hl 4 rfl) ?_
    refine lv_icmp_ne (tgt := 89) hx hb dX4_fewestSides_79 (by decide) (fun c13 => ?_) (fun c13 => ?_)
    · have hP := (if_neg c13).symm.trans hP
      have hq := hq.2 c13
      let v14 : Int32 := (y6 + (1 : Int32))
      refine lv_iinc (v := v14) (lv' := [(6, .int v14), (0, .ref (a 5)), (1, .ref (a 1)), (3, .int y3), (4, .int y4), (5, .int y5)]) hx hb dX4_fewestSides_89 hl (k := 5) rfl rfl (by decide) rfl (fun ls hl => ?_)
      refine lv_goto (tgt := 63) hx hb dX4_fewestSides_92 (by decide) ?_
      exact hK63 u (y3) (y4) (y5) (v14) H locs ls hq hP hw (lv_sub hl [1, 2, 3, 4, 5, 0] rfl)
    · have hP := (if_pos c13).symm.trans hP
      have hq := hq.1 c13
      refine lv_aload_n hx hb dX4_fewestSides_82 rfl (lv_at hl 0 rfl) ?_
      refine lv_aload_n hx hb dX4_fewestSides_83 rfl (lv_at hl 1 rfl) ?_
      refine lv_iload hx hb dX4_fewestSides_84 (lv_at hl 5 rfl) ?_
      obtain ⟨h15, hq⟩ := hq
      let u16 : S4 := xp_Search_stepOnFrom u y6
      refine call_vv (rest := []) ⟨hx, hb, hml, hown, htG⟩ nestW_ok hK hN hA (xc_Search_stepOnFrom l D a k3 u y6 h15) (cwV 2 htG (tb_V tb_437 tb_439 tb_7 tb_25 tb_440) rfl rfl rfl (by decide +kernel) ⟨Nat.le_of_ble_eq_true rfl, Nat.le_of_ble_eq_true rfl⟩) (ci := 4) rfl (xo_5 a k3 u) rfl hw rfl hl.1 rfl (Nat.le_of_ble_eq_true rfl) dX4_fewestSides_86 ⟨Nat.zero_le _, Nat.zero_le _⟩ (fun H locs (hw : wd D vwCl (xC a k3) A s.heap u16 H locs) => ?_)
      let v17 : Int32 := (y6 + (1 : Int32))
      refine lv_iinc (v := v17) (lv' := [(6, .int v17), (0, .ref (a 5)), (1, .ref (a 1)), (3, .int y3), (4, .int y4), (5, .int y5)]) hx hb dX4_fewestSides_89 hl (k := 5) rfl rfl (by decide) rfl (fun ls hl => ?_)
      refine lv_goto (tgt := 63) hx hb dX4_fewestSides_92 (by decide) ?_
      exact hK63 u16 (y3) (y4) (y5) (v17) H locs ls hq hP hw (lv_sub hl [1, 2, 3, 4, 5, 0] rfl)
set_option maxHeartbeats 4000000 in
set_option maxRecDepth 100000 in
theorem xw_Search_fewestSides_63 (l : Launch) (D : va_G) (a : Nat → Nat) (k3 : K3) {p : Program} {e : Env} {s : State} {m : MethodId} {below : List Frame} {meth : Method} {c : Code} {A : Nat → Prop} (av : Array Value) (F : Fx p s m meth c av cX4_fewestSides 7 (some .int) yX4_fewestSides.cls (kX4_fewestSides :: tbG) D vwCl (ty3 k3) nestW A) (P : Int32 × S4) (K43 : S4 → Int32 → Int32 → Int32 → (Int32 × S4)) (Q43 : S4 → Int32 → Int32 → Int32 → Prop) (hK43 : ∀ (u : S4) (y3 : Int32) (y4 : Int32) (y5 : Int32) (H : Heap) (locs : List Loc) (ls : Array Slot), Q43 u y3 y4 y5 → K43 u y3 y4 y5 = P → wd D vwCl (xC a k3) A s.heap u H locs → lv_has ls 7 [(0, .ref (a 5)), (1, .ref (a 1)), (3, .int y3), (4, .int y4), (5, .int y5)] → W p l e rm_xSearch_fewestSides s m av below meth c H locs 0 0 (QI below D vwCl (xC a k3) A av s P) (F0 m 43 ls [])) : ∀ (n : Nat), ∀ (u : S4) (y3 : Int32) (y4 : Int32) (y5 : Int32) (y6 : Int32) (H : Heap) (locs : List Loc) (ls : Array Slot), xLq_Search_fewestSides_63 Q43 n u y3 y4 y5 y6 → xL_Search_fewestSides_63 K43 n u y3 y4 y5 y6 = P → wd D vwCl (xC a k3) A s.heap u H locs → lv_has ls 7 [(0, .ref (a 5)), (1, .ref (a 1)), (3, .int y3), (4, .int y4), (5, .int y5), (6, .int y6)] → W p l e rm_xSearch_fewestSides s m av below meth c H locs 0 0 (QI below D vwCl (xC a k3) A av s P) (F0 m 63 ls []) := by
  intro n
  induction n with
  | zero => intro u y3 y4 y5 y6 H locs ls hq hP hw hl; exact hq.elim
  | succ n ih => intro u y3 y4 y5 y6 H locs ls hq hP hw hl; exact xs_Search_fewestSides_63 l D a k3 av F P K43 Q43 hK43 (xL_Search_fewestSides_63 K43 n) (xLq_Search_fewestSides_63 Q43 n) ih u y3 y4 y5 y6 H locs ls hq hP hw hl
def xB_Search_fewestSides_43 (K43 : S4 → Int32 → Int32 → Int32 → (Int32 × S4)) (u : S4) (y3 : Int32) (y4 : Int32) (y5 : Int32) : Int32 × S4 :=
  if y4 ≤ y5 then
    ((s4_ra u 14 y3), u)
  else
    if (s4_ra u 14 y3) = (-1 : Int32) then
      xL_Search_fewestSides_63 K43 64 u y3 y4 y5 (0 : Int32)
    else
      ((s4_ra u 14 y3), u)
def xL_Search_fewestSides_43 : Nat → S4 → Int32 → Int32 → Int32 → (Int32 × S4)
  | 0 => fun u _ _ _ => (0, u)
  | n + 1 => xB_Search_fewestSides_43 (xL_Search_fewestSides_43 n)
def xBq_Search_fewestSides_43 (Q43 : S4 → Int32 → Int32 → Int32 → Prop) (u : S4) (y3 : Int32) (y4 : Int32) (y5 : Int32) : Prop :=
  ((y4 ≤ y5 →
    vp_in y3 24) ∧ (¬ y4 ≤ y5 →
    vp_in y3 24 ∧
    (((s4_ra u 14 y3) = (-1 : Int32) →
      xLq_Search_fewestSides_63 Q43 64 u y3 y4 y5 (0 : Int32)) ∧ (¬ (s4_ra u 14 y3) = (-1 : Int32) →
      vp_in y3 24))))
def xLq_Search_fewestSides_43 : Nat → S4 → Int32 → Int32 → Int32 → Prop
  | 0 => fun _ _ _ _ => False
  | n + 1 => xBq_Search_fewestSides_43 (xLq_Search_fewestSides_43 n)
set_option maxHeartbeats 4000000 in
set_option maxRecDepth 100000 in
theorem xs_Search_fewestSides_43 (l : Launch) (D : va_G) (a : Nat → Nat) (k3 : K3) {p : Program} {e : Env} {s : State} {m : MethodId} {below : List Frame} {meth : Method} {c : Code} {A : Nat → Prop} (av : Array Value) (F : Fx p s m meth c av cX4_fewestSides 7 (some .int) yX4_fewestSides.cls (kX4_fewestSides :: tbG) D vwCl (ty3 k3) nestW A) (P : Int32 × S4) (K43 : S4 → Int32 → Int32 → Int32 → (Int32 × S4)) (Q43 : S4 → Int32 → Int32 → Int32 → Prop) (hK43 : ∀ (u : S4) (y3 : Int32) (y4 : Int32) (y5 : Int32) (H : Heap) (locs : List Loc) (ls : Array Slot), Q43 u y3 y4 y5 → K43 u y3 y4 y5 = P → wd D vwCl (xC a k3) A s.heap u H locs → lv_has ls 7 [(0, .ref (a 5)), (1, .ref (a 1)), (3, .int y3), (4, .int y4), (5, .int y5)] → W p l e rm_xSearch_fewestSides s m av below meth c H locs 0 0 (QI below D vwCl (xC a k3) A av s P) (F0 m 43 ls [])) : ∀ (u : S4) (y3 : Int32) (y4 : Int32) (y5 : Int32) (H : Heap) (locs : List Loc) (ls : Array Slot), xBq_Search_fewestSides_43 Q43 u y3 y4 y5 → xB_Search_fewestSides_43 K43 u y3 y4 y5 = P → wd D vwCl (xC a k3) A s.heap u H locs → lv_has ls 7 [(0, .ref (a 5)), (1, .ref (a 1)), (3, .int y3), (4, .int y4), (5, .int y5)] → W p l e rm_xSearch_fewestSides s m av below meth c H locs 0 0 (QI below D vwCl (xC a k3) A av s P) (F0 m 43 ls []) := by
  obtain ⟨hx, hb, hr, hml, hown, hts, hK, hN, hlocks, hA⟩ := id F
  have hown : s.vm.findClass RX4 = some m.cls := hown
  have htG : ∀ w ∈ tbG, w.before av s = true := fun w h => hts w (List.mem_cons_of_mem _ h)
  have f_25 := htG _ tb_144
  intro u y3 y4 y5 H locs ls hq hP hw hl
  refine lv_iload hx hb dX4_fewestSides_43 (lv_at hl 4 rfl) ?_
  refine lv_iload hx hb dX4_fewestSides_45 (lv_at hl 3 rfl) ?_
  refine lv_icmp_ge (tgt := 101) hx hb dX4_fewestSides_47 (by decide) (fun c5 => ?_) (fun c5 => ?_)
  · have hP := (if_pos c5).symm.trans hP
    have hq := hq.1 c5
    refine lv_aload_n hx hb dX4_fewestSides_101 rfl (lv_at hl 0 rfl) ?_
    refine va_get (D := D) (ci := 4) (v := .ref (a 27)) (C := RX4) (T := TX4) (N := 6) hx hb htG in_4 hown hK hw.1 5 (xo_5 a k3 u) rfl 4 (by decide) f_25 (fun _ h9 => h9) rfl dX4_fewestSides_102 ?_
    refine lv_iload_n hx hb dX4_fewestSides_105 rfl (lv_at hl 2 rfl) ?_
    have h6 := hq
    refine y_iald (t0 := 0) hx hb hK hw 14 (xo_27 a k3 u) rfl h6 dX4_fewestSides_106 ?_
    exact ret_i hx hb hr hlocks hw dX4_fewestSides_107 hP
  · have hP := (if_neg c5).symm.trans hP
    have hq := hq.2 c5
    refine lv_aload_n hx hb dX4_fewestSides_50 rfl (lv_at hl 0 rfl) ?_
    refine va_get (D := D) (ci := 4) (v := .ref (a 27)) (C := RX4) (T := TX4) (N := 6) hx hb htG in_4 hown hK hw.1 5 (xo_5 a k3 u) rfl 4 (by decide) f_25 (fun _ h9 => h9) rfl dX4_fewestSides_51 ?_
    refine lv_iload_n hx hb dX4_fewestSides_54 rfl (lv_at hl 2 rfl) ?_
    obtain ⟨h7, hq⟩ := hq
    refine y_iald (t0 := 0) hx hb hK hw 14 (xo_27 a k3 u) rfl h7 dX4_fewestSides_55 ?_
    refine lv_iconst (v := -1) hx hb dX4_fewestSides_56 (by decide) ?_
    refine lv_icmp_ne (tgt := 101) hx hb dX4_fewestSides_57 (by decide) (fun c8 => ?_) (fun c8 => ?_)
    · have hP := (if_neg c8).symm.trans hP
      have hq := hq.2 c8
      refine lv_aload_n hx hb dX4_fewestSides_101 rfl (lv_at hl 0 rfl) ?_
      refine va_get (D := D) (ci := 4) (v := .ref (a 27)) (C := RX4) (T := TX4) (N := 6) hx hb htG in_4 hown hK hw.1 5 (xo_5 a k3 u) rfl 4 (by decide) f_25 (fun _ h9 => h9) rfl dX4_fewestSides_102 ?_
      refine lv_iload_n hx hb dX4_fewestSides_105 rfl (lv_at hl 2 rfl) ?_
      have h9 := hq
      refine y_iald (t0 := 0) hx hb hK hw 14 (xo_27 a k3 u) rfl h9 dX4_fewestSides_106 ?_
      exact ret_i hx hb hr hlocks hw dX4_fewestSides_107 hP
    · have hP := (if_pos c8).symm.trans hP
      have hq := hq.1 c8
      refine lv_iconst (v := 0) hx hb dX4_fewestSides_60 (by decide) ?_
      refine lv_istore (lv' := [(6, .int (0 : Int32)), (0, .ref (a 5)), (1, .ref (a 1)), (3, .int y3), (4, .int y4), (5, .int y5)]) hx hb dX4_fewestSides_61 hl (by decide) rfl (fun ls hl => ?_)
      exact xw_Search_fewestSides_63 l D a k3 av F P K43 Q43 hK43 64 u y3 y4 y5 (0 : Int32) H locs ls hq hP hw (lv_sub hl [1, 2, 3, 4, 5, 0] rfl)
set_option maxHeartbeats 4000000 in
set_option maxRecDepth 100000 in
theorem xw_Search_fewestSides_43 (l : Launch) (D : va_G) (a : Nat → Nat) (k3 : K3) {p : Program} {e : Env} {s : State} {m : MethodId} {below : List Frame} {meth : Method} {c : Code} {A : Nat → Prop} (av : Array Value) (F : Fx p s m meth c av cX4_fewestSides 7 (some .int) yX4_fewestSides.cls (kX4_fewestSides :: tbG) D vwCl (ty3 k3) nestW A) (P : Int32 × S4) : ∀ (n : Nat), ∀ (u : S4) (y3 : Int32) (y4 : Int32) (y5 : Int32) (H : Heap) (locs : List Loc) (ls : Array Slot), xLq_Search_fewestSides_43 n u y3 y4 y5 → xL_Search_fewestSides_43 n u y3 y4 y5 = P → wd D vwCl (xC a k3) A s.heap u H locs → lv_has ls 7 [(0, .ref (a 5)), (1, .ref (a 1)), (3, .int y3), (4, .int y4), (5, .int y5)] → W p l e rm_xSearch_fewestSides s m av below meth c H locs 0 0 (QI below D vwCl (xC a k3) A av s P) (F0 m 43 ls []) := by
  intro n
  induction n with
  | zero => intro u y3 y4 y5 H locs ls hq hP hw hl; exact hq.elim
  | succ n ih => intro u y3 y4 y5 H locs ls hq hP hw hl; exact xs_Search_fewestSides_43 l D a k3 av F P (xL_Search_fewestSides_43 n) (xLq_Search_fewestSides_43 n) ih u y3 y4 y5 H locs ls hq hP hw hl
def xB_Search_fewestSides_12 (K12 : S4 → Int32 → Int32 → Int32 → Int32 → (Int32 × S4)) (u : S4) (y2 : Int32) (y3 : Int32) (y4 : Int32) (y5 : Int32) : Int32 × S4 :=
  if y4 ≤ y5 then
    let u4 : S4 := s4_wa u 14 y2 (0 : Int32)
    xL_Search_fewestSides_43 64 u4 y3 y4 (0 : Int32)
  else
    let u19 : S4 := s4_wa u 14 y5 (-1 : Int32)
    let v20 : Int32 := (y5 + (1 : Int32))
    K12 u19 y2 y3 y4 v20
def xL_Search_fewestSides_12 : Nat → S4 → Int32 → Int32 → Int32 → Int32 → (Int32 × S4)
  | 0 => fun u _ _ _ _ => (0, u)
  | n + 1 => xB_Search_fewestSides_12 (xL_Search_fewestSides_12 n)
def xBq_Search_fewestSides_12 (Q12 : S4 → Int32 → Int32 → Int32 → Int32 → Prop) (u : S4) (y2 : Int32) (y3 : Int32) (y4 : Int32) (y5 : Int32) : Prop :=
  ((y4 ≤ y5 →
    vp_in y2 24 ∧
    let u4 : S4 := s4_wa u 14 y2 (0 : Int32)
    xLq_Search_fewestSides_43 64 u4 y3 y4 (0 : Int32)) ∧ (¬ y4 ≤ y5 →
    vp_in y5 24 ∧
    let u19 : S4 := s4_wa u 14 y5 (-1 : Int32)
    let v20 : Int32 := (y5 + (1 : Int32))
    Q12 u19 y2 y3 y4 v20))
def xLq_Search_fewestSides_12 : Nat → S4 → Int32 → Int32 → Int32 → Int32 → Prop
  | 0 => fun _ _ _ _ _ => False
  | n + 1 => xBq_Search_fewestSides_12 (xLq_Search_fewestSides_12 n)
set_option maxHeartbeats 4000000 in
set_option maxRecDepth 100000 in
theorem xs_Search_fewestSides_12 (l : Launch) (D : va_G) (a : Nat → Nat) (k3 : K3) {p : Program} {e : Env} {s : State} {m : MethodId} {below : List Frame} {meth : Method} {c : Code} {A : Nat → Prop} (av : Array Value) (F : Fx p s m meth c av cX4_fewestSides 7 (some .int) yX4_fewestSides.cls (kX4_fewestSides :: tbG) D vwCl (ty3 k3) nestW A) (P : Int32 × S4) (K12 : S4 → Int32 → Int32 → Int32 → Int32 → (Int32 × S4)) (Q12 : S4 → Int32 → Int32 → Int32 → Int32 → Prop) (hK12 : ∀ (u : S4) (y2 : Int32) (y3 : Int32) (y4 : Int32) (y5 : Int32) (H : Heap) (locs : List Loc) (ls : Array Slot), Q12 u y2 y3 y4 y5 → K12 u y2 y3 y4 y5 = P → wd D vwCl (xC a k3) A s.heap u H locs → lv_has ls 7 [(0, .ref (a 5)), (1, .ref (a 1)), (2, .int y2), (3, .int y3), (4, .int y4), (5, .int y5)] → W p l e rm_xSearch_fewestSides s m av below meth c H locs 0 0 (QI below D vwCl (xC a k3) A av s P) (F0 m 12 ls [])) : ∀ (u : S4) (y2 : Int32) (y3 : Int32) (y4 : Int32) (y5 : Int32) (H : Heap) (locs : List Loc) (ls : Array Slot), xBq_Search_fewestSides_12 Q12 u y2 y3 y4 y5 → xB_Search_fewestSides_12 K12 u y2 y3 y4 y5 = P → wd D vwCl (xC a k3) A s.heap u H locs → lv_has ls 7 [(0, .ref (a 5)), (1, .ref (a 1)), (2, .int y2), (3, .int y3), (4, .int y4), (5, .int y5)] → W p l e rm_xSearch_fewestSides s m av below meth c H locs 0 0 (QI below D vwCl (xC a k3) A av s P) (F0 m 12 ls []) := by
  obtain ⟨hx, hb, hr, hml, hown, hts, hK, hN, hlocks, hA⟩ := id F
  have hown : s.vm.findClass RX4 = some m.cls := hown
  have htG : ∀ w ∈ tbG, w.before av s = true := fun w h => hts w (List.mem_cons_of_mem _ h)
  have f_25 := htG _ tb_144
  intro u y2 y3 y4 y5 H locs ls hq hP hw hl
  refine lv_iload hx hb dX4_fewestSides_12 (lv_at hl 5 rfl) ?_
  refine lv_iload hx hb dX4_fewestSides_14 (lv_at hl 4 rfl) ?_
  refine lv_icmp_ge (tgt := 33) hx hb dX4_fewestSides_16 (by decide) (fun c2 => ?_) (fun c2 => ?_)
  · have hP := (if_pos c2).symm.trans hP
    have hq := hq.1 c2
    refine lv_aload_n hx hb dX4_fewestSides_33 rfl (lv_at hl 0 rfl) ?_
    refine va_get (D := D) (ci := 4) (v := .ref (a 27)) (C := RX4) (T := TX4) (N := 6) hx hb htG in_4 hown hK hw.1 5 (xo_5 a k3 u) rfl 4 (by decide) f_25 (fun _ h9 => h9) rfl dX4_fewestSides_34 ?_
    refine lv_iload_n hx hb dX4_fewestSides_37 rfl (lv_at hl 2 rfl) ?_
    refine lv_iconst (v := 0) hx hb dX4_fewestSides_38 (by decide) ?_
    obtain ⟨h3, hq⟩ := hq
    let u4 : S4 := s4_wa u 14 y2 (0 : Int32)
    refine y_iast (t0 := 0) hx hb hK hw 14 (xo_27 a k3 u) (xq_27 a k3 u) rfl h3 dX4_fewestSides_39 (fun H locs (hw : wd D vwCl (xC a k3) A s.heap u4 H locs) => ?_)
    refine lv_iconst (v := 0) hx hb dX4_fewestSides_40 (by decide) ?_
    refine lv_istore (lv' := [(5, .int (0 : Int32)), (0, .ref (a 5)), (1, .ref (a 1)), (2, .int y2), (3, .int y3), (4, .int y4)]) hx hb dX4_fewestSides_41 hl (by decide) rfl (fun ls hl => ?_)
    exact xw_Search_fewestSides_43 l D a k3 av F P 64 u4 y3 y4 (0 : Int32) H locs ls hq hP hw (lv_sub hl [1, 2, 4, 5, 0] rfl)
  · have hP := (if_neg c2).symm.trans hP
    have hq := hq.2 c2
    refine lv_aload_n hx hb dX4_fewestSides_19 rfl (lv_at hl 0 rfl) ?_
    refine va_get (D := D) (ci := 4) (v := .ref (a 27)) (C := RX4) (T := TX4) (N := 6) hx hb htG in_4 hown hK hw.1 5 (xo_5 a k3 u) rfl 4 (by decide) f_25 (fun _ h9 => h9) rfl dX4_fewestSides_20 ?_
    refine lv_iload hx hb dX4_fewestSides_23 (lv_at hl 5 rfl) ?_
    refine lv_iconst (v := -1) hx hb dX4_fewestSides_25 (by decide) ?_
    obtain ⟨h18, hq⟩ := hq
    let u19 : S4 := s4_wa u 14 y5 (-1 : Int32)
    refine y_iast (t0 := 0) hx hb hK hw 14 (xo_27 a k3 u) (xq_27 a k3 u) rfl h18 dX4_fewestSides_26 (fun H locs (hw : wd D vwCl (xC a k3) A s.heap u19 H locs) => ?_)
    let v20 : Int32 := (y5 + (1 : Int32))
    refine lv_iinc (v := v20) (lv' := [(5, .int v20), (0, .ref (a 5)), (1, .ref (a 1)), (2, .int y2), (3, .int y3), (4, .int y4)]) hx hb dX4_fewestSides_27 hl (k := 5) rfl rfl (by decide) rfl (fun ls hl => ?_)
    refine lv_goto (tgt := 12) hx hb dX4_fewestSides_30 (by decide) ?_
    exact hK12 u19 (y2) (y3) (y4) (v20) H locs ls hq hP hw (lv_sub hl [1, 2, 3, 4, 5, 0] rfl)
set_option maxHeartbeats 4000000 in
set_option maxRecDepth 100000 in
theorem xw_Search_fewestSides_12 (l : Launch) (D : va_G) (a : Nat → Nat) (k3 : K3) {p : Program} {e : Env} {s : State} {m : MethodId} {below : List Frame} {meth : Method} {c : Code} {A : Nat → Prop} (av : Array Value) (F : Fx p s m meth c av cX4_fewestSides 7 (some .int) yX4_fewestSides.cls (kX4_fewestSides :: tbG) D vwCl (ty3 k3) nestW A) (P : Int32 × S4) : ∀ (n : Nat), ∀ (u : S4) (y2 : Int32) (y3 : Int32) (y4 : Int32) (y5 : Int32) (H : Heap) (locs : List Loc) (ls : Array Slot), xLq_Search_fewestSides_12 n u y2 y3 y4 y5 → xL_Search_fewestSides_12 n u y2 y3 y4 y5 = P → wd D vwCl (xC a k3) A s.heap u H locs → lv_has ls 7 [(0, .ref (a 5)), (1, .ref (a 1)), (2, .int y2), (3, .int y3), (4, .int y4), (5, .int y5)] → W p l e rm_xSearch_fewestSides s m av below meth c H locs 0 0 (QI below D vwCl (xC a k3) A av s P) (F0 m 12 ls []) := by
  intro n
  induction n with
  | zero => intro u y2 y3 y4 y5 H locs ls hq hP hw hl; exact hq.elim
  | succ n ih => intro u y2 y3 y4 y5 H locs ls hq hP hw hl; exact xs_Search_fewestSides_12 l D a k3 av F P (xL_Search_fewestSides_12 n) (xLq_Search_fewestSides_12 n) ih u y2 y3 y4 y5 H locs ls hq hP hw hl
def xp_Search_fewestSides (u : S4) (x2 : Int32) (x3 : Int32) : Int32 × S4 :=
  let r1 : Int32 := xp_Streets_sides u
  xL_Search_fewestSides_12 64 u x2 x3 r1 (0 : Int32)
def xq_Search_fewestSides (u : S4) (x2 : Int32) (x3 : Int32) : Prop :=
  let r1 : Int32 := xp_Streets_sides u
  xLq_Search_fewestSides_12 64 u x2 x3 r1 (0 : Int32)
set_option maxHeartbeats 4000000 in
set_option maxRecDepth 100000 in
theorem xc_Search_fewestSides (l : Launch) (D : va_G) (a : Nat → Nat) (k3 : K3) (u : S4) (x2 : Int32) (x3 : Int32) (hq : xq_Search_fewestSides u x2 x3) : MI l D vwCl (ty3 k3) nestW (xC a k3) yX4_fewestSides (kX4_fewestSides :: tbG) rm_xSearch_fewestSides [.ref (a 5), .ref (a 1), .int x2, .int x3] u (xp_Search_fewestSides u x2 x3) := by
  refine mkI (cc := cX4_fewestSides) (maxL := 7) (ret := (some .int)) (by decide) rfl (Nat.le_of_ble_eq_true rfl) ?_
  intro p e s m below meth c A ls F hw hl
  generalize hav : ([.ref (a 5), .ref (a 1), .int x2, .int x3] : List Value).toArray = av at F ⊢
  have hl : lv_has ls 7 [(0, .ref (a 5)), (1, .ref (a 1)), (2, .int x2), (3, .int x3)] := hl
  obtain ⟨hx, hb, hr, hml, hown, hts, hK, hN, hlocks, hA⟩ := id F
  have hown : s.vm.findClass RX4 = some m.cls := hown
  have htG : ∀ w ∈ tbG, w.before av s = true := fun w h => hts w (List.mem_cons_of_mem _ h)
  have f_35 := va_Nw.use (A := av) rfl (hN _ nw_5)
  have hgo : ∀ P, xp_Search_fewestSides u x2 x3 = P → ∀ (H : Heap) (locs : List Loc), wd D vwCl (xC a k3) A s.heap u H locs → W p l e rm_xSearch_fewestSides s m av below meth c H locs 0 0 (QI below D vwCl (xC a k3) A av s P) (F0 m 0 ls []) := by
    intro P hP H locs hw
    refine lv_aload_n hx hb dX4_fewestSides_0 rfl (lv_at hl 1 rfl) ?_
    refine va_getN (D := D) (ci := 2) (v := .ref (a 3)) (C := RX2) (T := TX2) (N := 5) hx hb htG in_2 hown hK hw.1 1 (xo_1 a k3 u) rfl 1 (by decide) f_35 (fun _ h9 => h9) rfl dX4_fewestSides_1 ?_
    let r1 : Int32 := xp_Streets_sides u
    refine call_vir (rest := []) ⟨hx, hb, hml, hown, htG⟩ nestW_ok hK hN hA (xc_Streets_sides l D a k3 u) (cwV 0 htG (tb_V tb_311 tb_312 tb_313 tb_23 tb_314) rfl rfl rfl (by decide +kernel) ⟨Nat.le_of_ble_eq_true rfl, Nat.le_of_ble_eq_true rfl⟩) (ci := 5) rfl (xo_3 a k3 u) rfl hw rfl hl.1 rfl (Nat.le_of_ble_eq_true rfl) dX4_fewestSides_4 ⟨Nat.zero_le _, Nat.zero_le _⟩ (fun H locs (hw : wd D vwCl (xC a k3) A s.heap u H locs) => ?_)
    refine lv_istore (lv' := [(4, .int r1), (0, .ref (a 5)), (1, .ref (a 1)), (2, .int x2), (3, .int x3)]) hx hb dX4_fewestSides_7 hl (by decide) rfl (fun ls hl => ?_)
    refine lv_iconst (v := 0) hx hb dX4_fewestSides_9 (by decide) ?_
    refine lv_istore (lv' := [(5, .int (0 : Int32)), (4, .int r1), (0, .ref (a 5)), (1, .ref (a 1)), (2, .int x2), (3, .int x3)]) hx hb dX4_fewestSides_10 hl (by decide) rfl (fun ls hl => ?_)
    exact xw_Search_fewestSides_12 l D a k3 av F P 64 u x2 x3 r1 (0 : Int32) H locs ls hq hP hw (lv_sub hl [2, 3, 4, 5, 1, 0] rfl)
  exact hgo _ rfl s.heap [] hw
