theorem dX7_plain_0 : decode cX7_plain 0 = .ok (.aload_n 0, 1) := by decide +kernel
theorem dX7_plain_1 : decode cX7_plain 1 = .ok (.getfield 12, 3) := by decide +kernel
theorem dX7_plain_4 : decode cX7_plain 4 = .ok (.getfield 55, 3) := by decide +kernel
theorem dX7_plain_7 : decode cX7_plain 7 = .ok (.iload_n 1, 1) := by decide +kernel
theorem dX7_plain_8 : decode cX7_plain 8 = .ok (.invokevirtual 64, 3) := by decide +kernel
theorem dX7_plain_11 : decode cX7_plain 11 = .ok (.ifCond .eq 17, 3) := by decide +kernel
theorem dX7_plain_14 : decode cX7_plain 14 = .ok (.aload_n 0, 1) := by decide +kernel
theorem dX7_plain_15 : decode cX7_plain 15 = .ok (.getfield 12, 3) := by decide +kernel
theorem dX7_plain_18 : decode cX7_plain 18 = .ok (.getfield 55, 3) := by decide +kernel
theorem dX7_plain_21 : decode cX7_plain 21 = .ok (.iload_n 2, 1) := by decide +kernel
theorem dX7_plain_22 : decode cX7_plain 22 = .ok (.invokevirtual 64, 3) := by decide +kernel
theorem dX7_plain_25 : decode cX7_plain 25 = .ok (.ifCond .ne 5, 3) := by decide +kernel
theorem dX7_plain_28 : decode cX7_plain 28 = .ok (.iconst (-1), 1) := by decide +kernel
theorem dX7_plain_29 : decode cX7_plain 29 = .ok (.ireturn, 1) := by decide +kernel
theorem dX7_plain_30 : decode cX7_plain 30 = .ok (.aload_n 0, 1) := by decide +kernel
theorem dX7_plain_31 : decode cX7_plain 31 = .ok (.getfield 19, 3) := by decide +kernel
theorem dX7_plain_34 : decode cX7_plain 34 = .ok (.aload_n 0, 1) := by decide +kernel
theorem dX7_plain_35 : decode cX7_plain 35 = .ok (.getfield 12, 3) := by decide +kernel
theorem dX7_plain_38 : decode cX7_plain 38 = .ok (.iload_n 1, 1) := by decide +kernel
theorem dX7_plain_39 : decode cX7_plain 39 = .ok (.iconst 0, 1) := by decide +kernel
theorem dX7_plain_40 : decode cX7_plain 40 = .ok (.invokestatic 103, 3) := by decide +kernel
theorem dX7_plain_43 : decode cX7_plain 43 = .ok (.iload_n 2, 1) := by decide +kernel
theorem dX7_plain_44 : decode cX7_plain 44 = .ok (.iconst 0, 1) := by decide +kernel
theorem dX7_plain_45 : decode cX7_plain 45 = .ok (.invokestatic 103, 3) := by decide +kernel
theorem dX7_plain_48 : decode cX7_plain 48 = .ok (.invokevirtual 136, 3) := by decide +kernel
theorem dX7_plain_51 : decode cX7_plain 51 = .ok (.ireturn, 1) := by decide +kernel
abbrev rm_xO_plain : Room := { frames := 5, cells := 0, slots := 0, locals := 118 }
def xp_O_plain (u : S4) (x1 : Int32) (x2 : Int32) : Int32 × S4 :=
  let r1 : Int32 := xp_Streets_has u x1
  if r1 = (0 : Int32) then
    ((-1 : Int32), u)
  else
    let r3 : Int32 := xp_Streets_has u x2
    if r3 = (0 : Int32) then
      ((-1 : Int32), u)
    else
      let r5 : Int32 := xp_O_numberOf u x1 (0 : Int32)
      let r6 : Int32 := xp_O_numberOf u x2 (0 : Int32)
      let r8 : Int32 × S4 := xp_Search_fewestSides u r5 r6
      (r8.1, r8.2)
def xq_O_plain (u : S4) (x1 : Int32) (x2 : Int32) : Prop :=
  let r1 : Int32 := xp_Streets_has u x1
  (¬ r1 = (0 : Int32) →
    let r3 : Int32 := xp_Streets_has u x2
    (¬ r3 = (0 : Int32) →
      let r5 : Int32 := xp_O_numberOf u x1 (0 : Int32)
      let r6 : Int32 := xp_O_numberOf u x2 (0 : Int32)
      xq_Search_fewestSides u r5 r6))
set_option maxHeartbeats 4000000 in
set_option maxRecDepth 100000 in
theorem xc_O_plain (l : Launch) (D : va_G) (a : Nat → Nat) (k3 : K3) (u : S4) (x1 : Int32) (x2 : Int32) (hq : xq_O_plain u x1 x2) : MI l D vwCl (ty3 k3) nestW (xC a k3) yX7_plain (kX7_plain :: tbG) rm_xO_plain [.ref (a 0), .int x1, .int x2] u (xp_O_plain u x1 x2) := by
  refine mkI (cc := cX7_plain) (maxL := 3) (ret := (some .int)) (by decide) rfl (Nat.le_of_ble_eq_true rfl) ?_
  intro p e s m below meth c A ls F hw hl
  generalize hav : ([.ref (a 0), .int x1, .int x2] : List Value).toArray = av at F ⊢
  have hl : lv_has ls 3 [(0, .ref (a 0)), (1, .int x1), (2, .int x2)] := hl
  obtain ⟨hx, hb, hr, hml, hown, hts, hK, hN, hlocks, hA⟩ := id F
  have hown : s.vm.findClass RX7 = some m.cls := hown
  have htG : ∀ w ∈ tbG, w.before av s = true := fun w h => hts w (List.mem_cons_of_mem _ h)
  have f_12 := htG _ tb_188
  have f_55 := va_Nw.use (A := av) rfl (hN _ nw_6)
  have f_19 := htG _ tb_189
  have hgo : ∀ P, xp_O_plain u x1 x2 = P → ∀ (H : Heap) (locs : List Loc), wd D vwCl (xC a k3) A s.heap u H locs → W p l e rm_xO_plain s m av below meth c H locs 0 0 (QI below D vwCl (xC a k3) A av s P) (F0 m 0 ls []) := by
    intro P hP H locs hw
    refine lv_aload_n hx hb dX7_plain_0 rfl (lv_at hl 0 rfl) ?_
    refine va_get (D := D) (ci := 7) (v := .ref (a 1)) (C := RX7) (T := TX7) (N := 4) hx hb htG in_7 hown hK hw.1 0 (xo_0 a k3 u) rfl 0 (by decide) f_12 (fun _ h9 => h9) rfl dX7_plain_1 ?_
    refine va_getN (D := D) (ci := 2) (v := .ref (a 3)) (C := RX2) (T := TX2) (N := 5) hx hb htG in_2 hown hK hw.1 1 (xo_1 a k3 u) rfl 1 (by decide) f_55 (fun _ h9 => h9) rfl dX7_plain_4 ?_
    refine lv_iload_n hx hb dX7_plain_7 rfl (lv_at hl 1 rfl) ?_
    let r1 : Int32 := xp_Streets_has u x1
    refine call_vir (rest := []) ⟨hx, hb, hml, hown, htG⟩ nestW_ok hK hN hA (xc_Streets_has l D a k3 u x1) (cwV 1 htG (tb_V tb_240 tb_241 tb_242 tb_23 tb_243) rfl rfl rfl (by decide +kernel) ⟨Nat.le_of_ble_eq_true rfl, Nat.le_of_ble_eq_true rfl⟩) (ci := 5) rfl (xo_3 a k3 u) rfl hw rfl hl.1 rfl (Nat.le_of_ble_eq_true rfl) dX7_plain_8 ⟨Nat.zero_le _, Nat.zero_le _⟩ (fun H locs (hw : wd D vwCl (xC a k3) A s.heap u H locs) => ?_)
    refine lv_if_eq (tgt := 28) hx hb dX7_plain_11 (by decide) (fun c2 => ?_) (fun c2 => ?_)
    · have hP := (if_pos c2).symm.trans hP
      refine lv_iconst (v := -1) hx hb dX7_plain_28 (by decide) ?_
      exact ret_i hx hb hr hlocks hw dX7_plain_29 hP
    · have hP := (if_neg c2).symm.trans hP
      have hq := hq c2
      refine lv_aload_n hx hb dX7_plain_14 rfl (lv_at hl 0 rfl) ?_
      refine va_get (D := D) (ci := 7) (v := .ref (a 1)) (C := RX7) (T := TX7) (N := 4) hx hb htG in_7 hown hK hw.1 0 (xo_0 a k3 u) rfl 0 (by decide) f_12 (fun _ h9 => h9) rfl dX7_plain_15 ?_
      refine va_getN (D := D) (ci := 2) (v := .ref (a 3)) (C := RX2) (T := TX2) (N := 5) hx hb htG in_2 hown hK hw.1 1 (xo_1 a k3 u) rfl 1 (by decide) f_55 (fun _ h9 => h9) rfl dX7_plain_18 ?_
      refine lv_iload_n hx hb dX7_plain_21 rfl (lv_at hl 2 rfl) ?_
      let r3 : Int32 := xp_Streets_has u x2
      refine call_vir (rest := []) ⟨hx, hb, hml, hown, htG⟩ nestW_ok hK hN hA (xc_Streets_has l D a k3 u x2) (cwV 1 htG (tb_V tb_240 tb_241 tb_242 tb_23 tb_243) rfl rfl rfl (by decide +kernel) ⟨Nat.le_of_ble_eq_true rfl, Nat.le_of_ble_eq_true rfl⟩) (ci := 5) rfl (xo_3 a k3 u) rfl hw rfl hl.1 rfl (Nat.le_of_ble_eq_true rfl) dX7_plain_22 ⟨Nat.zero_le _, Nat.zero_le _⟩ (fun H locs (hw : wd D vwCl (xC a k3) A s.heap u H locs) => ?_)
      refine lv_if_ne (tgt := 30) hx hb dX7_plain_25 (by decide) (fun c4 => ?_) (fun c4 => ?_)
      · have hP := (if_neg c4).symm.trans hP
        have hq := hq c4
        refine lv_aload_n hx hb dX7_plain_30 rfl (lv_at hl 0 rfl) ?_
        refine va_get (D := D) (ci := 7) (v := .ref (a 5)) (C := RX7) (T := TX7) (N := 4) hx hb htG in_7 hown hK hw.1 0 (xo_0 a k3 u) rfl 1 (by decide) f_19 (fun _ h9 => h9) rfl dX7_plain_31 ?_
        refine lv_aload_n hx hb dX7_plain_34 rfl (lv_at hl 0 rfl) ?_
        refine va_get (D := D) (ci := 7) (v := .ref (a 1)) (C := RX7) (T := TX7) (N := 4) hx hb htG in_7 hown hK hw.1 0 (xo_0 a k3 u) rfl 0 (by decide) f_12 (fun _ h9 => h9) rfl dX7_plain_35 ?_
        refine lv_iload_n hx hb dX7_plain_38 rfl (lv_at hl 1 rfl) ?_
        refine lv_iconst (v := 0) hx hb dX7_plain_39 (by decide) ?_
        let r5 : Int32 := xp_O_numberOf u x1 (0 : Int32)
        refine call_sir (rest := [.ref (a 1), .ref (a 5)]) ⟨hx, hb, hml, hown, htG⟩ nestW_ok hK hN hA (xc_O_numberOf l D a k3 u x1 (0 : Int32)) (cwS 2 htG (tb_S tb_295 tb_296 tb_20 tb_297) rfl rfl rfl (by decide +kernel) ⟨Nat.le_of_ble_eq_true rfl, Nat.le_of_ble_eq_true rfl⟩) hw rfl hl.1 rfl (Nat.le_of_ble_eq_true rfl) dX7_plain_40 ⟨Nat.zero_le _, Nat.zero_le _⟩ (fun H locs (hw : wd D vwCl (xC a k3) A s.heap u H locs) => ?_)
        refine lv_iload_n hx hb dX7_plain_43 rfl (lv_at hl 2 rfl) ?_
        refine lv_iconst (v := 0) hx hb dX7_plain_44 (by decide) ?_
        let r6 : Int32 := xp_O_numberOf u x2 (0 : Int32)
        refine call_sir (rest := [.int r5, .ref (a 1), .ref (a 5)]) ⟨hx, hb, hml, hown, htG⟩ nestW_ok hK hN hA (xc_O_numberOf l D a k3 u x2 (0 : Int32)) (cwS 2 htG (tb_S tb_295 tb_296 tb_20 tb_297) rfl rfl rfl (by decide +kernel) ⟨Nat.le_of_ble_eq_true rfl, Nat.le_of_ble_eq_true rfl⟩) hw rfl hl.1 rfl (Nat.le_of_ble_eq_true rfl) dX7_plain_45 ⟨Nat.zero_le _, Nat.zero_le _⟩ (fun H locs (hw : wd D vwCl (xC a k3) A s.heap u H locs) => ?_)
        have h7 := hq
        let r8 : Int32 × S4 := xp_Search_fewestSides u r5 r6
        refine call_vi (rest := []) ⟨hx, hb, hml, hown, htG⟩ nestW_ok hK hN hA (xc_Search_fewestSides l D a k3 u r5 r6 h7) (cwV 3 htG (tb_V tb_433 tb_434 tb_435 tb_25 tb_436) rfl rfl rfl (by decide +kernel) ⟨Nat.le_of_ble_eq_true rfl, Nat.le_of_ble_eq_true rfl⟩) (ci := 4) rfl (xo_5 a k3 u) rfl hw rfl hl.1 rfl (Nat.le_of_ble_eq_true rfl) dX7_plain_48 ⟨Nat.zero_le _, Nat.zero_le _⟩ (fun H locs (hw : wd D vwCl (xC a k3) A s.heap r8.2 H locs) => ?_)
        exact ret_i hx hb hr hlocks hw dX7_plain_51 hP
      · have hP := (if_pos c4).symm.trans hP
        refine lv_iconst (v := -1) hx hb dX7_plain_28 (by decide) ?_
        exact ret_i hx hb hr hlocks hw dX7_plain_29 hP
  exact hgo _ rfl s.heap [] hw
theorem dX1_add_0 : decode cX1_add 0 = .ok (.aload_n 0, 1) := by decide +kernel
theorem dX1_add_1 : decode cX1_add 1 = .ok (.getfield 15, 3) := by decide +kernel
theorem dX1_add_4 : decode cX1_add 4 = .ok (.bipush 20, 2) := by decide +kernel
theorem dX1_add_6 : decode cX1_add 6 = .ok (.if_icmp .lt 5, 3) := by decide +kernel
theorem dX1_add_9 : decode cX1_add 9 = .ok (.iconst (-1), 1) := by decide +kernel
theorem dX1_add_10 : decode cX1_add 10 = .ok (.ireturn, 1) := by decide +kernel
theorem dX1_add_11 : decode cX1_add 11 = .ok (.aload_n 0, 1) := by decide +kernel
theorem dX1_add_12 : decode cX1_add 12 = .ok (.getfield 9, 3) := by decide +kernel
theorem dX1_add_15 : decode cX1_add 15 = .ok (.aload_n 0, 1) := by decide +kernel
theorem dX1_add_16 : decode cX1_add 16 = .ok (.getfield 15, 3) := by decide +kernel
theorem dX1_add_19 : decode cX1_add 19 = .ok (.iload_n 1, 1) := by decide +kernel
theorem dX1_add_20 : decode cX1_add 20 = .ok (.iastore, 1) := by decide +kernel
theorem dX1_add_21 : decode cX1_add 21 = .ok (.aload_n 0, 1) := by decide +kernel
theorem dX1_add_22 : decode cX1_add 22 = .ok (.dup, 1) := by decide +kernel
theorem dX1_add_23 : decode cX1_add 23 = .ok (.getfield 15, 3) := by decide +kernel
theorem dX1_add_26 : decode cX1_add 26 = .ok (.iconst 1, 1) := by decide +kernel
theorem dX1_add_27 : decode cX1_add 27 = .ok (.iadd, 1) := by decide +kernel
theorem dX1_add_28 : decode cX1_add 28 = .ok (.putfield 15, 3) := by decide +kernel
theorem dX1_add_31 : decode cX1_add 31 = .ok (.aload_n 0, 1) := by decide +kernel
theorem dX1_add_32 : decode cX1_add 32 = .ok (.getfield 15, 3) := by decide +kernel
theorem dX1_add_35 : decode cX1_add 35 = .ok (.iconst 1, 1) := by decide +kernel
theorem dX1_add_36 : decode cX1_add 36 = .ok (.isub, 1) := by decide +kernel
theorem dX1_add_37 : decode cX1_add 37 = .ok (.ireturn, 1) := by decide +kernel
abbrev rm_xNeeds_add : Room := { frames := 0, cells := 0, slots := 0, locals := 0 }
def xp_Needs_add (u : S4) (x1 : Int32) : Int32 × S4 :=
  if (s4_i u 4) < (20 : Int32) then
    let u3 : S4 := s4_wa u 17 (s4_i u 4) x1
    let v4 : Int32 := ((s4_i u3 4) + (1 : Int32))
    let u5 : S4 := s4_si u3 4 v4
    (((s4_i u5 4) - (1 : Int32)), u5)
  else
    ((-1 : Int32), u)
def xq_Needs_add (u : S4) (x1 : Int32) : Prop :=
  ((s4_i u 4) < (20 : Int32) →
    vp_in (s4_i u 4) 20)
set_option maxHeartbeats 4000000 in
set_option maxRecDepth 100000 in
theorem xc_Needs_add (l : Launch) (D : va_G) (a : Nat → Nat) (k3 : K3) (u : S4) (x1 : Int32) (hq : xq_Needs_add u x1) : MI l D vwCl (ty3 k3) nestW (xC a k3) yX1_add (kX1_add :: tbG) rm_xNeeds_add [.ref (a 7), .int x1] u (xp_Needs_add u x1) := by
  refine mkI (cc := cX1_add) (maxL := 2) (ret := (some .int)) (by decide) rfl (Nat.le_of_ble_eq_true rfl) ?_
  intro p e s m below meth c A ls F hw hl
  generalize hav : ([.ref (a 7), .int x1] : List Value).toArray = av at F ⊢
  have hl : lv_has ls 2 [(0, .ref (a 7)), (1, .int x1)] := hl
  obtain ⟨hx, hb, hr, hml, hown, hts, hK, hN, hlocks, hA⟩ := id F
  have hown : s.vm.findClass RX1 = some m.cls := hown
  have htG : ∀ w ∈ tbG, w.before av s = true := fun w h => hts w (List.mem_cons_of_mem _ h)
  have f_15 := htG _ tb_182
  have f_9 := htG _ tb_181
  have hgo : ∀ P, xp_Needs_add u x1 = P → ∀ (H : Heap) (locs : List Loc), wd D vwCl (xC a k3) A s.heap u H locs → W p l e rm_xNeeds_add s m av below meth c H locs 0 0 (QI below D vwCl (xC a k3) A av s P) (F0 m 0 ls []) := by
    intro P hP H locs hw
    refine lv_aload_n hx hb dX1_add_0 rfl (lv_at hl 0 rfl) ?_
    refine va_get (D := D) (ci := 1) (v := .int (s4_i u 4)) (C := RX1) (T := TX1) (N := 2) hx hb htG in_1 hown hK hw.1 7 (xo_7 a k3 u) rfl 1 (by decide) f_15 (fun _ h9 => h9) rfl dX1_add_1 ?_
    refine lv_bipush (v := 20) hx hb dX1_add_4 (by decide) ?_
    refine lv_icmp_lt (tgt := 11) hx hb dX1_add_6 (by decide) (fun c1 => ?_) (fun c1 => ?_)
    · have hP := (if_pos c1).symm.trans hP
      have hq := hq c1
      refine lv_aload_n hx hb dX1_add_11 rfl (lv_at hl 0 rfl) ?_
      refine va_get (D := D) (ci := 1) (v := .ref (a 30)) (C := RX1) (T := TX1) (N := 2) hx hb htG in_1 hown hK hw.1 7 (xo_7 a k3 u) rfl 0 (by decide) f_9 (fun _ h9 => h9) rfl dX1_add_12 ?_
      refine lv_aload_n hx hb dX1_add_15 rfl (lv_at hl 0 rfl) ?_
      refine va_get (D := D) (ci := 1) (v := .int (s4_i u 4)) (C := RX1) (T := TX1) (N := 2) hx hb htG in_1 hown hK hw.1 7 (xo_7 a k3 u) rfl 1 (by decide) f_15 (fun _ h9 => h9) rfl dX1_add_16 ?_
      refine lv_iload_n hx hb dX1_add_19 rfl (lv_at hl 1 rfl) ?_
      have h2 := hq
      let u3 : S4 := s4_wa u 17 (s4_i u 4) x1
      refine y_iast (t0 := 0) hx hb hK hw 17 (xo_30 a k3 u) (xq_30 a k3 u) rfl h2 dX1_add_20 (fun H locs (hw : wd D vwCl (xC a k3) A s.heap u3 H locs) => ?_)
      refine lv_aload_n hx hb dX1_add_21 rfl (lv_at hl 0 rfl) ?_
      refine lv_dup hx hb dX1_add_22 rfl ?_
      refine va_get (D := D) (ci := 1) (v := .int (s4_i u3 4)) (C := RX1) (T := TX1) (N := 2) hx hb htG in_1 hown hK hw.1 7 (xo_7 a k3 u3) rfl 1 (by decide) f_15 (fun _ h9 => h9) rfl dX1_add_23 ?_
      refine lv_iconst (v := 1) hx hb dX1_add_26 (by decide) ?_
      refine lv_iadd hx hb dX1_add_27 ?_
      let v4 : Int32 := ((s4_i u3 4) + (1 : Int32))
      let u5 : S4 := s4_si u3 4 v4
      refine y_puti hx hb htG in_1 tyX1 tyX1_ok nX1 hown hK hw 4 (xo_7 a k3 u3) rfl 1 (by decide) f_15 (fun _ h9 => h9) rfl (by decide +kernel) (Nat.le_of_ble_eq_true rfl) (xt_i4 a k3 u3 v4) dX1_add_28 (fun H locs (hw : wd D vwCl (xC a k3) A s.heap u5 H locs) => ?_)
      refine lv_aload_n hx hb dX1_add_31 rfl (lv_at hl 0 rfl) ?_
      refine va_get (D := D) (ci := 1) (v := .int (s4_i u5 4)) (C := RX1) (T := TX1) (N := 2) hx hb htG in_1 hown hK hw.1 7 (xo_7 a k3 u5) rfl 1 (by decide) f_15 (fun _ h9 => h9) rfl dX1_add_32 ?_
      refine lv_iconst (v := 1) hx hb dX1_add_35 (by decide) ?_
      refine lv_isub hx hb dX1_add_36 ?_
      exact ret_i hx hb hr hlocks hw dX1_add_37 hP
    · have hP := (if_neg c1).symm.trans hP
      refine lv_iconst (v := -1) hx hb dX1_add_9 (by decide) ?_
      exact ret_i hx hb hr hlocks hw dX1_add_10 hP
  exact hgo _ rfl s.heap [] hw
theorem dX7_need_0 : decode cX7_need 0 = .ok (.aload_n 0, 1) := by decide +kernel
theorem dX7_need_1 : decode cX7_need 1 = .ok (.iload_n 1, 1) := by decide +kernel
theorem dX7_need_2 : decode cX7_need 2 = .ok (.iload_n 2, 1) := by decide +kernel
theorem dX7_need_3 : decode cX7_need 3 = .ok (.invokevirtual 98, 3) := by decide +kernel
theorem dX7_need_6 : decode cX7_need 6 = .ok (.ifCond .ne 5, 3) := by decide +kernel
theorem dX7_need_9 : decode cX7_need 9 = .ok (.iconst (-1), 1) := by decide +kernel
theorem dX7_need_10 : decode cX7_need 10 = .ok (.ireturn, 1) := by decide +kernel
theorem dX7_need_11 : decode cX7_need 11 = .ok (.aload_n 0, 1) := by decide +kernel
theorem dX7_need_12 : decode cX7_need 12 = .ok (.getfield 33, 3) := by decide +kernel
theorem dX7_need_15 : decode cX7_need 15 = .ok (.iload_n 1, 1) := by decide +kernel
theorem dX7_need_16 : decode cX7_need 16 = .ok (.iload_n 2, 1) := by decide +kernel
theorem dX7_need_17 : decode cX7_need 17 = .ok (.invokestatic 103, 3) := by decide +kernel
theorem dX7_need_20 : decode cX7_need 20 = .ok (.invokevirtual 140, 3) := by decide +kernel
theorem dX7_need_23 : decode cX7_need 23 = .ok (.ireturn, 1) := by decide +kernel
abbrev rm_xO_need : Room := { frames := 2, cells := 0, slots := 0, locals := 43 }
def xp_O_need (u : S4) (x1 : Int32) (x2 : Int32) : Int32 × S4 :=
  let r1 : Int32 := xp_O_isSide u x1 x2
  if r1 = (0 : Int32) then
    ((-1 : Int32), u)
  else
    let r3 : Int32 := xp_O_numberOf u x1 x2
    let r5 : Int32 × S4 := xp_Needs_add u r3
    (r5.1, r5.2)
def xq_O_need (u : S4) (x1 : Int32) (x2 : Int32) : Prop :=
  let r1 : Int32 := xp_O_isSide u x1 x2
  (¬ r1 = (0 : Int32) →
    let r3 : Int32 := xp_O_numberOf u x1 x2
    xq_Needs_add u r3)
set_option maxHeartbeats 4000000 in
set_option maxRecDepth 100000 in
theorem xc_O_need (l : Launch) (D : va_G) (a : Nat → Nat) (k3 : K3) (u : S4) (x1 : Int32) (x2 : Int32) (hq : xq_O_need u x1 x2) : MI l D vwCl (ty3 k3) nestW (xC a k3) yX7_need (kX7_need :: tbG) rm_xO_need [.ref (a 0), .int x1, .int x2] u (xp_O_need u x1 x2) := by
  refine mkI (cc := cX7_need) (maxL := 3) (ret := (some .int)) (by decide) rfl (Nat.le_of_ble_eq_true rfl) ?_
  intro p e s m below meth c A ls F hw hl
  generalize hav : ([.ref (a 0), .int x1, .int x2] : List Value).toArray = av at F ⊢
  have hl : lv_has ls 3 [(0, .ref (a 0)), (1, .int x1), (2, .int x2)] := hl
  obtain ⟨hx, hb, hr, hml, hown, hts, hK, hN, hlocks, hA⟩ := id F
  have hown : s.vm.findClass RX7 = some m.cls := hown
  have htG : ∀ w ∈ tbG, w.before av s = true := fun w h => hts w (List.mem_cons_of_mem _ h)
  have f_33 := htG _ tb_191
  have hgo : ∀ P, xp_O_need u x1 x2 = P → ∀ (H : Heap) (locs : List Loc), wd D vwCl (xC a k3) A s.heap u H locs → W p l e rm_xO_need s m av below meth c H locs 0 0 (QI below D vwCl (xC a k3) A av s P) (F0 m 0 ls []) := by
    intro P hP H locs hw
    refine lv_aload_n hx hb dX7_need_0 rfl (lv_at hl 0 rfl) ?_
    refine lv_iload_n hx hb dX7_need_1 rfl (lv_at hl 1 rfl) ?_
    refine lv_iload_n hx hb dX7_need_2 rfl (lv_at hl 2 rfl) ?_
    let r1 : Int32 := xp_O_isSide u x1 x2
    refine call_vir (rest := []) ⟨hx, hb, hml, hown, htG⟩ nestW_ok hK hN hA (xc_O_isSide l D a k3 u x1 x2) (cwV 2 htG (tb_V tb_290 tb_292 tb_0 tb_20 tb_293) rfl rfl rfl (by decide +kernel) ⟨Nat.le_of_ble_eq_true rfl, Nat.le_of_ble_eq_true rfl⟩) (ci := 7) rfl (xo_0 a k3 u) rfl hw rfl hl.1 rfl (Nat.le_of_ble_eq_true rfl) dX7_need_3 ⟨Nat.zero_le _, Nat.zero_le _⟩ (fun H locs (hw : wd D vwCl (xC a k3) A s.heap u H locs) => ?_)
    refine lv_if_ne (tgt := 11) hx hb dX7_need_6 (by decide) (fun c2 => ?_) (fun c2 => ?_)
    · have hP := (if_neg c2).symm.trans hP
      have hq := hq c2
      refine lv_aload_n hx hb dX7_need_11 rfl (lv_at hl 0 rfl) ?_
      refine va_get (D := D) (ci := 7) (v := .ref (a 7)) (C := RX7) (T := TX7) (N := 4) hx hb htG in_7 hown hK hw.1 0 (xo_0 a k3 u) rfl 3 (by decide) f_33 (fun _ h9 => h9) rfl dX7_need_12 ?_
      refine lv_iload_n hx hb dX7_need_15 rfl (lv_at hl 1 rfl) ?_
      refine lv_iload_n hx hb dX7_need_16 rfl (lv_at hl 2 rfl) ?_
      let r3 : Int32 := xp_O_numberOf u x1 x2
      refine call_sir (rest := [.ref (a 7)]) ⟨hx, hb, hml, hown, htG⟩ nestW_ok hK hN hA (xc_O_numberOf l D a k3 u x1 x2) (cwS 2 htG (tb_S tb_295 tb_296 tb_20 tb_297) rfl rfl rfl (by decide +kernel) ⟨Nat.le_of_ble_eq_true rfl, Nat.le_of_ble_eq_true rfl⟩) hw rfl hl.1 rfl (Nat.le_of_ble_eq_true rfl) dX7_need_17 ⟨Nat.zero_le _, Nat.zero_le _⟩ (fun H locs (hw : wd D vwCl (xC a k3) A s.heap u H locs) => ?_)
      have h4 := hq
      let r5 : Int32 × S4 := xp_Needs_add u r3
      refine call_vi (rest := []) ⟨hx, hb, hml, hown, htG⟩ nestW_ok hK hN hA (xc_Needs_add l D a k3 u r3 h4) (cwV 1 htG (tb_V tb_446 tb_447 tb_448 tb_27 tb_449) rfl rfl rfl (by decide +kernel) ⟨Nat.le_of_ble_eq_true rfl, Nat.le_of_ble_eq_true rfl⟩) (ci := 1) rfl (xo_7 a k3 u) rfl hw rfl hl.1 rfl (Nat.le_of_ble_eq_true rfl) dX7_need_20 ⟨Nat.zero_le _, Nat.zero_le _⟩ (fun H locs (hw : wd D vwCl (xC a k3) A s.heap r5.2 H locs) => ?_)
      exact ret_i hx hb hr hlocks hw dX7_need_23 hP
    · have hP := (if_pos c2).symm.trans hP
      refine lv_iconst (v := -1) hx hb dX7_need_9 (by decide) ?_
      exact ret_i hx hb hr hlocks hw dX7_need_10 hP
  exact hgo _ rfl s.heap [] hw
theorem dX1_has_0 : decode cX1_has 0 = .ok (.iload_n 1, 1) := by decide +kernel
theorem dX1_has_1 : decode cX1_has 1 = .ok (.ifCond .lt 15, 3) := by decide +kernel
theorem dX1_has_4 : decode cX1_has 4 = .ok (.iload_n 1, 1) := by decide +kernel
theorem dX1_has_5 : decode cX1_has 5 = .ok (.aload_n 0, 1) := by decide +kernel
theorem dX1_has_6 : decode cX1_has 6 = .ok (.getfield 15, 3) := by decide +kernel
theorem dX1_has_9 : decode cX1_has 9 = .ok (.if_icmp .ge 7, 3) := by decide +kernel
theorem dX1_has_12 : decode cX1_has 12 = .ok (.iconst 1, 1) := by decide +kernel
theorem dX1_has_13 : decode cX1_has 13 = .ok (.goto 4, 3) := by decide +kernel
theorem dX1_has_16 : decode cX1_has 16 = .ok (.iconst 0, 1) := by decide +kernel
theorem dX1_has_17 : decode cX1_has 17 = .ok (.ireturn, 1) := by decide +kernel
abbrev rm_xNeeds_has : Room := { frames := 0, cells := 0, slots := 0, locals := 0 }
def xp_Needs_has (u : S4) (x1 : Int32) : Int32 :=
  if x1 < (0 : Int32) then
    (0 : Int32)
  else
    if (s4_i u 4) ≤ x1 then
      (0 : Int32)
    else
      (1 : Int32)
set_option maxHeartbeats 4000000 in
set_option maxRecDepth 100000 in
theorem xc_Needs_has (l : Launch) (D : va_G) (a : Nat → Nat) (k3 : K3) (u : S4) (x1 : Int32) : MI l D vwCl (ty3 k3) nestW (xC a k3) yX1_has (kX1_has :: tbG) rm_xNeeds_has [.ref (a 7), .int x1] u (xp_Needs_has u x1, u) := by
  refine mkI (cc := cX1_has) (maxL := 2) (ret := (some .boolean)) (by decide) rfl (Nat.le_of_ble_eq_true rfl) ?_
  intro p e s m below meth c A ls F hw hl
  generalize hav : ([.ref (a 7), .int x1] : List Value).toArray = av at F ⊢
  have hl : lv_has ls 2 [(0, .ref (a 7)), (1, .int x1)] := hl
  obtain ⟨hx, hb, hr, hml, hown, hts, hK, hN, hlocks, hA⟩ := id F
  have hown : s.vm.findClass RX1 = some m.cls := hown
  have htG : ∀ w ∈ tbG, w.before av s = true := fun w h => hts w (List.mem_cons_of_mem _ h)
  have f_15 := htG _ tb_182
  have hgo : ∀ P, xp_Needs_has u x1 = P → ∀ (H : Heap) (locs : List Loc), wd D vwCl (xC a k3) A s.heap u H locs → W p l e rm_xNeeds_has s m av below meth c H locs 0 0 (QI below D vwCl (xC a k3) A av s (P, u)) (F0 m 0 ls []) := by
    intro P hP H locs hw
    refine lv_iload_n hx hb dX1_has_0 rfl (lv_at hl 1 rfl) ?_
    refine lv_if_lt (tgt := 16) hx hb dX1_has_1 (by decide) (fun c1 => ?_) (fun c1 => ?_)
    · have hP := (if_pos c1).symm.trans hP
      refine lv_iconst (v := 0) hx hb dX1_has_16 (by decide) ?_
      exact ret_z hx hb hr hlocks hw rfl dX1_has_17 (congrArg (fun z => (z, u)) hP)
    · have hP := (if_neg c1).symm.trans hP
      refine lv_iload_n hx hb dX1_has_4 rfl (lv_at hl 1 rfl) ?_
      refine lv_aload_n hx hb dX1_has_5 rfl (lv_at hl 0 rfl) ?_
      refine va_get (D := D) (ci := 1) (v := .int (s4_i u 4)) (C := RX1) (T := TX1) (N := 2) hx hb htG in_1 hown hK hw.1 7 (xo_7 a k3 u) rfl 1 (by decide) f_15 (fun _ h9 => h9) rfl dX1_has_6 ?_
      refine lv_icmp_ge (tgt := 16) hx hb dX1_has_9 (by decide) (fun c2 => ?_) (fun c2 => ?_)
      · have hP := (if_pos c2).symm.trans hP
        refine lv_iconst (v := 0) hx hb dX1_has_16 (by decide) ?_
        exact ret_z hx hb hr hlocks hw rfl dX1_has_17 (congrArg (fun z => (z, u)) hP)
      · have hP := (if_neg c2).symm.trans hP
        refine lv_iconst (v := 1) hx hb dX1_has_12 (by decide) ?_
        refine lv_goto (tgt := 17) hx hb dX1_has_13 (by decide) ?_
        exact ret_z hx hb hr hlocks hw rfl dX1_has_17 (congrArg (fun z => (z, u)) hP)
  exact hgo _ rfl s.heap [] hw
theorem dX1_sideAt_0 : decode cX1_sideAt 0 = .ok (.aload_n 0, 1) := by decide +kernel
theorem dX1_sideAt_1 : decode cX1_sideAt 1 = .ok (.getfield 9, 3) := by decide +kernel
theorem dX1_sideAt_4 : decode cX1_sideAt 4 = .ok (.iload_n 1, 1) := by decide +kernel
theorem dX1_sideAt_5 : decode cX1_sideAt 5 = .ok (.iaload, 1) := by decide +kernel
theorem dX1_sideAt_6 : decode cX1_sideAt 6 = .ok (.ireturn, 1) := by decide +kernel
abbrev rm_xNeeds_sideAt : Room := { frames := 0, cells := 0, slots := 0, locals := 0 }
def xp_Needs_sideAt (u : S4) (x1 : Int32) : Int32 :=
  (s4_ra u 17 x1)
def xq_Needs_sideAt (u : S4) (x1 : Int32) : Prop :=
  vp_in x1 20
set_option maxHeartbeats 4000000 in
set_option maxRecDepth 100000 in
theorem xc_Needs_sideAt (l : Launch) (D : va_G) (a : Nat → Nat) (k3 : K3) (u : S4) (x1 : Int32) (hq : xq_Needs_sideAt u x1) : MI l D vwCl (ty3 k3) nestW (xC a k3) yX1_sideAt (kX1_sideAt :: tbG) rm_xNeeds_sideAt [.ref (a 7), .int x1] u (xp_Needs_sideAt u x1, u) := by
  refine mkI (cc := cX1_sideAt) (maxL := 2) (ret := (some .int)) (by decide) rfl (Nat.le_of_ble_eq_true rfl) ?_
  intro p e s m below meth c A ls F hw hl
  generalize hav : ([.ref (a 7), .int x1] : List Value).toArray = av at F ⊢
  have hl : lv_has ls 2 [(0, .ref (a 7)), (1, .int x1)] := hl
  obtain ⟨hx, hb, hr, hml, hown, hts, hK, hN, hlocks, hA⟩ := id F
  have hown : s.vm.findClass RX1 = some m.cls := hown
  have htG : ∀ w ∈ tbG, w.before av s = true := fun w h => hts w (List.mem_cons_of_mem _ h)
  have f_9 := htG _ tb_181
  have hgo : ∀ P, xp_Needs_sideAt u x1 = P → ∀ (H : Heap) (locs : List Loc), wd D vwCl (xC a k3) A s.heap u H locs → W p l e rm_xNeeds_sideAt s m av below meth c H locs 0 0 (QI below D vwCl (xC a k3) A av s (P, u)) (F0 m 0 ls []) := by
    intro P hP H locs hw
    refine lv_aload_n hx hb dX1_sideAt_0 rfl (lv_at hl 0 rfl) ?_
    refine va_get (D := D) (ci := 1) (v := .ref (a 30)) (C := RX1) (T := TX1) (N := 2) hx hb htG in_1 hown hK hw.1 7 (xo_7 a k3 u) rfl 0 (by decide) f_9 (fun _ h9 => h9) rfl dX1_sideAt_1 ?_
    refine lv_iload_n hx hb dX1_sideAt_4 rfl (lv_at hl 1 rfl) ?_
    have h1 := hq
    refine y_iald (t0 := 0) hx hb hK hw 17 (xo_30 a k3 u) rfl h1 dX1_sideAt_5 ?_
    exact ret_i hx hb hr hlocks hw dX1_sideAt_6 (congrArg (fun z => (z, u)) hP)
  exact hgo _ rfl s.heap [] hw
theorem dX7_joined_0 : decode cX7_joined 0 = .ok (.aload_n 0, 1) := by decide +kernel
theorem dX7_joined_1 : decode cX7_joined 1 = .ok (.getfield 33, 3) := by decide +kernel
theorem dX7_joined_4 : decode cX7_joined 4 = .ok (.iload_n 1, 1) := by decide +kernel
theorem dX7_joined_5 : decode cX7_joined 5 = .ok (.invokevirtual 142, 3) := by decide +kernel
theorem dX7_joined_8 : decode cX7_joined 8 = .ok (.ifCond .eq 14, 3) := by decide +kernel
theorem dX7_joined_11 : decode cX7_joined 11 = .ok (.aload_n 0, 1) := by decide +kernel
theorem dX7_joined_12 : decode cX7_joined 12 = .ok (.getfield 33, 3) := by decide +kernel
theorem dX7_joined_15 : decode cX7_joined 15 = .ok (.iload_n 2, 1) := by decide +kernel
theorem dX7_joined_16 : decode cX7_joined 16 = .ok (.invokevirtual 142, 3) := by decide +kernel
theorem dX7_joined_19 : decode cX7_joined 19 = .ok (.ifCond .ne 5, 3) := by decide +kernel
theorem dX7_joined_22 : decode cX7_joined 22 = .ok (.iconst (-1), 1) := by decide +kernel
theorem dX7_joined_23 : decode cX7_joined 23 = .ok (.ireturn, 1) := by decide +kernel
theorem dX7_joined_24 : decode cX7_joined 24 = .ok (.aload_n 0, 1) := by decide +kernel
theorem dX7_joined_25 : decode cX7_joined 25 = .ok (.getfield 33, 3) := by decide +kernel
theorem dX7_joined_28 : decode cX7_joined 28 = .ok (.iload_n 1, 1) := by decide +kernel
theorem dX7_joined_29 : decode cX7_joined 29 = .ok (.invokevirtual 143, 3) := by decide +kernel
theorem dX7_joined_32 : decode cX7_joined 32 = .ok (.istore_n 3, 1) := by decide +kernel
theorem dX7_joined_33 : decode cX7_joined 33 = .ok (.aload_n 0, 1) := by decide +kernel
theorem dX7_joined_34 : decode cX7_joined 34 = .ok (.getfield 33, 3) := by decide +kernel
theorem dX7_joined_37 : decode cX7_joined 37 = .ok (.iload_n 2, 1) := by decide +kernel
theorem dX7_joined_38 : decode cX7_joined 38 = .ok (.invokevirtual 143, 3) := by decide +kernel
theorem dX7_joined_41 : decode cX7_joined 41 = .ok (.istore 4, 2) := by decide +kernel
theorem dX7_joined_43 : decode cX7_joined 43 = .ok (.iload_n 3, 1) := by decide +kernel
theorem dX7_joined_44 : decode cX7_joined 44 = .ok (.iload 4, 2) := by decide +kernel
theorem dX7_joined_46 : decode cX7_joined 46 = .ok (.if_icmp .ne 5, 3) := by decide +kernel
theorem dX7_joined_49 : decode cX7_joined 49 = .ok (.iconst 2, 1) := by decide +kernel
theorem dX7_joined_50 : decode cX7_joined 50 = .ok (.ireturn, 1) := by decide +kernel
theorem dX7_joined_51 : decode cX7_joined 51 = .ok (.aload_n 0, 1) := by decide +kernel
theorem dX7_joined_52 : decode cX7_joined 52 = .ok (.getfield 12, 3) := by decide +kernel
theorem dX7_joined_55 : decode cX7_joined 55 = .ok (.iload_n 3, 1) := by decide +kernel
theorem dX7_joined_56 : decode cX7_joined 56 = .ok (.iload 4, 2) := by decide +kernel
theorem dX7_joined_58 : decode cX7_joined 58 = .ok (.invokevirtual 144, 3) := by decide +kernel
theorem dX7_joined_61 : decode cX7_joined 61 = .ok (.ifCond .eq 7, 3) := by decide +kernel
theorem dX7_joined_64 : decode cX7_joined 64 = .ok (.iconst 1, 1) := by decide +kernel
theorem dX7_joined_65 : decode cX7_joined 65 = .ok (.goto 4, 3) := by decide +kernel
theorem dX7_joined_68 : decode cX7_joined 68 = .ok (.iconst 0, 1) := by decide +kernel
theorem dX7_joined_69 : decode cX7_joined 69 = .ok (.ireturn, 1) := by decide +kernel
abbrev rm_xO_joined : Room := { frames := 3, cells := 0, slots := 0, locals := 69 }
def xp_O_joined (u : S4) (x1 : Int32) (x2 : Int32) : Int32 :=
  let r1 : Int32 := xp_Needs_has u x1
  if r1 = (0 : Int32) then
    (-1 : Int32)
  else
    let r3 : Int32 := xp_Needs_has u x2
    if r3 = (0 : Int32) then
      (-1 : Int32)
    else
      let r6 : Int32 := xp_Needs_sideAt u x1
      let r8 : Int32 := xp_Needs_sideAt u x2
      if r6 = r8 then
        (2 : Int32)
      else
        let r11 : Int32 := xp_Net_goesOn u r6 r8
        if r11 = (0 : Int32) then
          (0 : Int32)
        else
          (1 : Int32)
def xq_O_joined (u : S4) (x1 : Int32) (x2 : Int32) : Prop :=
  let r1 : Int32 := xp_Needs_has u x1
  (¬ r1 = (0 : Int32) →
    let r3 : Int32 := xp_Needs_has u x2
    (¬ r3 = (0 : Int32) →
      xq_Needs_sideAt u x1 ∧
      let r6 : Int32 := xp_Needs_sideAt u x1
      xq_Needs_sideAt u x2 ∧
      let r8 : Int32 := xp_Needs_sideAt u x2
      (¬ r6 = r8 →
        xq_Net_goesOn u r6 r8)))
set_option maxHeartbeats 4000000 in
set_option maxRecDepth 100000 in
theorem xc_O_joined (l : Launch) (D : va_G) (a : Nat → Nat) (k3 : K3) (u : S4) (x1 : Int32) (x2 : Int32) (hq : xq_O_joined u x1 x2) : MI l D vwCl (ty3 k3) nestW (xC a k3) yX7_joined (kX7_joined :: tbG) rm_xO_joined [.ref (a 0), .int x1, .int x2] u (xp_O_joined u x1 x2, u) := by
  refine mkI (cc := cX7_joined) (maxL := 5) (ret := (some .int)) (by decide) rfl (Nat.le_of_ble_eq_true rfl) ?_
  intro p e s m below meth c A ls F hw hl
  generalize hav : ([.ref (a 0), .int x1, .int x2] : List Value).toArray = av at F ⊢
  have hl : lv_has ls 5 [(0, .ref (a 0)), (1, .int x1), (2, .int x2)] := hl
  obtain ⟨hx, hb, hr, hml, hown, hts, hK, hN, hlocks, hA⟩ := id F
  have hown : s.vm.findClass RX7 = some m.cls := hown
  have htG : ∀ w ∈ tbG, w.before av s = true := fun w h => hts w (List.mem_cons_of_mem _ h)
  have f_33 := htG _ tb_191
  have f_12 := htG _ tb_188
  have hgo : ∀ P, xp_O_joined u x1 x2 = P → ∀ (H : Heap) (locs : List Loc), wd D vwCl (xC a k3) A s.heap u H locs → W p l e rm_xO_joined s m av below meth c H locs 0 0 (QI below D vwCl (xC a k3) A av s (P, u)) (F0 m 0 ls []) := by
    intro P hP H locs hw
    refine lv_aload_n hx hb dX7_joined_0 rfl (lv_at hl 0 rfl) ?_
    refine va_get (D := D) (ci := 7) (v := .ref (a 7)) (C := RX7) (T := TX7) (N := 4) hx hb htG in_7 hown hK hw.1 0 (xo_0 a k3 u) rfl 3 (by decide) f_33 (fun _ h9 => h9) rfl dX7_joined_1 ?_
    refine lv_iload_n hx hb dX7_joined_4 rfl (lv_at hl 1 rfl) ?_
    let r1 : Int32 := xp_Needs_has u x1
    refine call_vir (rest := []) ⟨hx, hb, hml, hown, htG⟩ nestW_ok hK hN hA (xc_Needs_has l D a k3 u x1) (cwV 1 htG (tb_V tb_454 tb_455 tb_456 tb_27 tb_457) rfl rfl rfl (by decide +kernel) ⟨Nat.le_of_ble_eq_true rfl, Nat.le_of_ble_eq_true rfl⟩) (ci := 1) rfl (xo_7 a k3 u) rfl hw rfl hl.1 rfl (Nat.le_of_ble_eq_true rfl) dX7_joined_5 ⟨Nat.zero_le _, Nat.zero_le _⟩ (fun H locs (hw : wd D vwCl (xC a k3) A s.heap u H locs) => ?_)
    refine lv_if_eq (tgt := 22) hx hb dX7_joined_8 (by decide) (fun c2 => ?_) (fun c2 => ?_)
    · have hP := (if_pos c2).symm.trans hP
      refine lv_iconst (v := -1) hx hb dX7_joined_22 (by decide) ?_
      exact ret_i hx hb hr hlocks hw dX7_joined_23 (congrArg (fun z => (z, u)) hP)
    · have hP := (if_neg c2).symm.trans hP
      have hq := hq c2
      refine lv_aload_n hx hb dX7_joined_11 rfl (lv_at hl 0 rfl) ?_
      refine va_get (D := D) (ci := 7) (v := .ref (a 7)) (C := RX7) (T := TX7) (N := 4) hx hb htG in_7 hown hK hw.1 0 (xo_0 a k3 u) rfl 3 (by decide) f_33 (fun _ h9 => h9) rfl dX7_joined_12 ?_
      refine lv_iload_n hx hb dX7_joined_15 rfl (lv_at hl 2 rfl) ?_
      let r3 : Int32 := xp_Needs_has u x2
      refine call_vir (rest := []) ⟨hx, hb, hml, hown, htG⟩ nestW_ok hK hN hA (xc_Needs_has l D a k3 u x2) (cwV 1 htG (tb_V tb_454 tb_455 tb_456 tb_27 tb_457) rfl rfl rfl (by decide +kernel) ⟨Nat.le_of_ble_eq_true rfl, Nat.le_of_ble_eq_true rfl⟩) (ci := 1) rfl (xo_7 a k3 u) rfl hw rfl hl.1 rfl (Nat.le_of_ble_eq_true rfl) dX7_joined_16 ⟨Nat.zero_le _, Nat.zero_le _⟩ (fun H locs (hw : wd D vwCl (xC a k3) A s.heap u H locs) => ?_)
      refine lv_if_ne (tgt := 24) hx hb dX7_joined_19 (by decide) (fun c4 => ?_) (fun c4 => ?_)
      · have hP := (if_neg c4).symm.trans hP
        have hq := hq c4
        refine lv_aload_n hx hb dX7_joined_24 rfl (lv_at hl 0 rfl) ?_
        refine va_get (D := D) (ci := 7) (v := .ref (a 7)) (C := RX7) (T := TX7) (N := 4) hx hb htG in_7 hown hK hw.1 0 (xo_0 a k3 u) rfl 3 (by decide) f_33 (fun _ h9 => h9) rfl dX7_joined_25 ?_
        refine lv_iload_n hx hb dX7_joined_28 rfl (lv_at hl 1 rfl) ?_
        obtain ⟨h5, hq⟩ := hq
        let r6 : Int32 := xp_Needs_sideAt u x1
        refine call_vir (rest := []) ⟨hx, hb, hml, hown, htG⟩ nestW_ok hK hN hA (xc_Needs_sideAt l D a k3 u x1 h5) (cwV 1 htG (tb_V tb_458 tb_459 tb_460 tb_27 tb_461) rfl rfl rfl (by decide +kernel) ⟨Nat.le_of_ble_eq_true rfl, Nat.le_of_ble_eq_true rfl⟩) (ci := 1) rfl (xo_7 a k3 u) rfl hw rfl hl.1 rfl (Nat.le_of_ble_eq_true rfl) dX7_joined_29 ⟨Nat.zero_le _, Nat.zero_le _⟩ (fun H locs (hw : wd D vwCl (xC a k3) A s.heap u H locs) => ?_)
        refine lv_istore_n (lv' := [(3, .int r6), (0, .ref (a 0)), (1, .int x1), (2, .int x2)]) hx hb dX7_joined_32 rfl hl (by decide) rfl (fun ls hl => ?_)
        refine lv_aload_n hx hb dX7_joined_33 rfl (lv_at hl 1 rfl) ?_
        refine va_get (D := D) (ci := 7) (v := .ref (a 7)) (C := RX7) (T := TX7) (N := 4) hx hb htG in_7 hown hK hw.1 0 (xo_0 a k3 u) rfl 3 (by decide) f_33 (fun _ h9 => h9) rfl dX7_joined_34 ?_
        refine lv_iload_n hx hb dX7_joined_37 rfl (lv_at hl 3 rfl) ?_
        obtain ⟨h7, hq⟩ := hq
        let r8 : Int32 := xp_Needs_sideAt u x2
        refine call_vir (rest := []) ⟨hx, hb, hml, hown, htG⟩ nestW_ok hK hN hA (xc_Needs_sideAt l D a k3 u x2 h7) (cwV 1 htG (tb_V tb_458 tb_459 tb_460 tb_27 tb_461) rfl rfl rfl (by decide +kernel) ⟨Nat.le_of_ble_eq_true rfl, Nat.le_of_ble_eq_true rfl⟩) (ci := 1) rfl (xo_7 a k3 u) rfl hw rfl hl.1 rfl (Nat.le_of_ble_eq_true rfl) dX7_joined_38 ⟨Nat.zero_le _, Nat.zero_le _⟩ (fun H locs (hw : wd D vwCl (xC a k3) A s.heap u H locs) => ?_)
        refine lv_istore (lv' := [(4, .int r8), (3, .int r6), (0, .ref (a 0)), (1, .int x1), (2, .int x2)]) hx hb dX7_joined_41 hl (by decide) rfl (fun ls hl => ?_)
        refine lv_iload_n hx hb dX7_joined_43 rfl (lv_at hl 1 rfl) ?_
        refine lv_iload hx hb dX7_joined_44 (lv_at hl 0 rfl) ?_
        refine lv_icmp_ne (tgt := 51) hx hb dX7_joined_46 (by decide) (fun c9 => ?_) (fun c9 => ?_)
        · have hP := (if_neg c9).symm.trans hP
          have hq := hq c9
          refine lv_aload_n hx hb dX7_joined_51 rfl (lv_at hl 2 rfl) ?_
          refine va_get (D := D) (ci := 7) (v := .ref (a 1)) (C := RX7) (T := TX7) (N := 4) hx hb htG in_7 hown hK hw.1 0 (xo_0 a k3 u) rfl 0 (by decide) f_12 (fun _ h9 => h9) rfl dX7_joined_52 ?_
          refine lv_iload_n hx hb dX7_joined_55 rfl (lv_at hl 1 rfl) ?_
          refine lv_iload hx hb dX7_joined_56 (lv_at hl 0 rfl) ?_
          have h10 := hq
          let r11 : Int32 := xp_Net_goesOn u r6 r8
          refine call_vir (rest := []) ⟨hx, hb, hml, hown, htG⟩ nestW_ok hK hN hA (xc_Net_goesOn l D a k3 u r6 r8 h10) (cwV 2 htG (tb_V tb_462 tb_328 tb_329 tb_21 tb_330) rfl rfl rfl (by decide +kernel) ⟨Nat.le_of_ble_eq_true rfl, Nat.le_of_ble_eq_true rfl⟩) (ci := 2) rfl (xo_1 a k3 u) rfl hw rfl hl.1 rfl (Nat.le_of_ble_eq_true rfl) dX7_joined_58 ⟨Nat.zero_le _, Nat.zero_le _⟩ (fun H locs (hw : wd D vwCl (xC a k3) A s.heap u H locs) => ?_)
          refine lv_if_eq (tgt := 68) hx hb dX7_joined_61 (by decide) (fun c12 => ?_) (fun c12 => ?_)
          · have hP := (if_pos c12).symm.trans hP
            refine lv_iconst (v := 0) hx hb dX7_joined_68 (by decide) ?_
            exact ret_i hx hb hr hlocks hw dX7_joined_69 (congrArg (fun z => (z, u)) hP)
          · have hP := (if_neg c12).symm.trans hP
            refine lv_iconst (v := 1) hx hb dX7_joined_64 (by decide) ?_
            refine lv_goto (tgt := 69) hx hb dX7_joined_65 (by decide) ?_
            exact ret_i hx hb hr hlocks hw dX7_joined_69 (congrArg (fun z => (z, u)) hP)
        · have hP := (if_pos c9).symm.trans hP
          refine lv_iconst (v := 2) hx hb dX7_joined_49 (by decide) ?_
          exact ret_i hx hb hr hlocks hw dX7_joined_50 (congrArg (fun z => (z, u)) hP)
      · have hP := (if_pos c4).symm.trans hP
        refine lv_iconst (v := -1) hx hb dX7_joined_22 (by decide) ?_
        exact ret_i hx hb hr hlocks hw dX7_joined_23 (congrArg (fun z => (z, u)) hP)
  exact hgo _ rfl s.heap [] hw
theorem dX3_size_0 : decode cX3_size 0 = .ok (.aload_n 0, 1) := by decide +kernel
theorem dX3_size_1 : decode cX3_size 1 = .ok (.getfield 22, 3) := by decide +kernel
theorem dX3_size_4 : decode cX3_size 4 = .ok (.ireturn, 1) := by decide +kernel
abbrev rm_xNodes_size : Room := { frames := 0, cells := 0, slots := 0, locals := 0 }
def xp_Nodes_size (u : S4) : Int32 :=
  (s4_i u 0)
set_option maxHeartbeats 4000000 in
set_option maxRecDepth 100000 in
theorem xc_Nodes_size (l : Launch) (D : va_G) (a : Nat → Nat) (k3 : K3) (u : S4) : MI l D vwCl (ty3 k3) nestW (xC a k3) yX3_size (kX3_size :: tbG) rm_xNodes_size [.ref (a 2)] u (xp_Nodes_size u, u) := by
  refine mkI (cc := cX3_size) (maxL := 1) (ret := (some .int)) (by decide) rfl (Nat.le_of_ble_eq_true rfl) ?_
  intro p e s m below meth c A ls F hw hl
  generalize hav : ([.ref (a 2)] : List Value).toArray = av at F ⊢
  have hl : lv_has ls 1 [(0, .ref (a 2))] := hl
  obtain ⟨hx, hb, hr, hml, hown, hts, hK, hN, hlocks, hA⟩ := id F
  have hown : s.vm.findClass RX3 = some m.cls := hown
  have htG : ∀ w ∈ tbG, w.before av s = true := fun w h => hts w (List.mem_cons_of_mem _ h)
  have f_22 := htG _ tb_53
  have hgo : ∀ P, xp_Nodes_size u = P → ∀ (H : Heap) (locs : List Loc), wd D vwCl (xC a k3) A s.heap u H locs → W p l e rm_xNodes_size s m av below meth c H locs 0 0 (QI below D vwCl (xC a k3) A av s (P, u)) (F0 m 0 ls []) := by
    intro P hP H locs hw
    refine lv_aload_n hx hb dX3_size_0 rfl (lv_at hl 0 rfl) ?_
    refine va_get (D := D) (ci := 3) (v := .int (s4_i u 0)) (C := RX3) (T := TX3) (N := 4) hx hb htG in_3 hown hK hw.1 2 (xo_2 a k3 u) rfl 3 (by decide) f_22 (fun _ h9 => h9) rfl dX3_size_1 ?_
    exact ret_i hx hb hr hlocks hw dX3_size_4 (congrArg (fun z => (z, u)) hP)
  exact hgo _ rfl s.heap [] hw
theorem dX5_size_0 : decode cX5_size 0 = .ok (.aload_n 0, 1) := by decide +kernel
theorem dX5_size_1 : decode cX5_size 1 = .ok (.getfield 37, 3) := by decide +kernel
theorem dX5_size_4 : decode cX5_size 4 = .ok (.ireturn, 1) := by decide +kernel
abbrev rm_xStreets_size : Room := { frames := 0, cells := 0, slots := 0, locals := 0 }
def xp_Streets_size (u : S4) : Int32 :=
  (s4_i u 1)
set_option maxHeartbeats 4000000 in
set_option maxRecDepth 100000 in
theorem xc_Streets_size (l : Launch) (D : va_G) (a : Nat → Nat) (k3 : K3) (u : S4) : MI l D vwCl (ty3 k3) nestW (xC a k3) yX5_size (kX5_size :: tbG) rm_xStreets_size [.ref (a 3)] u (xp_Streets_size u, u) := by
  refine mkI (cc := cX5_size) (maxL := 1) (ret := (some .int)) (by decide) rfl (Nat.le_of_ble_eq_true rfl) ?_
  intro p e s m below meth c A ls F hw hl
  generalize hav : ([.ref (a 3)] : List Value).toArray = av at F ⊢
  have hl : lv_has ls 1 [(0, .ref (a 3))] := hl
  obtain ⟨hx, hb, hr, hml, hown, hts, hK, hN, hlocks, hA⟩ := id F
  have hown : s.vm.findClass RX5 = some m.cls := hown
  have htG : ∀ w ∈ tbG, w.before av s = true := fun w h => hts w (List.mem_cons_of_mem _ h)
  have f_37 := htG _ tb_79
  have hgo : ∀ P, xp_Streets_size u = P → ∀ (H : Heap) (locs : List Loc), wd D vwCl (xC a k3) A s.heap u H locs → W p l e rm_xStreets_size s m av below meth c H locs 0 0 (QI below D vwCl (xC a k3) A av s (P, u)) (F0 m 0 ls []) := by
    intro P hP H locs hw
    refine lv_aload_n hx hb dX5_size_0 rfl (lv_at hl 0 rfl) ?_
    refine va_get (D := D) (ci := 5) (v := .int (s4_i u 1)) (C := RX5) (T := TX5) (N := 9) hx hb htG in_5 hown hK hw.1 3 (xo_3 a k3 u) rfl 8 (by decide) f_37 (fun _ h9 => h9) rfl dX5_size_1 ?_
    exact ret_i hx hb hr hlocks hw dX5_size_4 (congrArg (fun z => (z, u)) hP)
  exact hgo _ rfl s.heap [] hw
theorem dX5_nodeAOf_0 : decode cX5_nodeAOf 0 = .ok (.aload_n 0, 1) := by decide +kernel
theorem dX5_nodeAOf_1 : decode cX5_nodeAOf 1 = .ok (.getfield 11, 3) := by decide +kernel
theorem dX5_nodeAOf_4 : decode cX5_nodeAOf 4 = .ok (.iload_n 1, 1) := by decide +kernel
theorem dX5_nodeAOf_5 : decode cX5_nodeAOf 5 = .ok (.iaload, 1) := by decide +kernel
theorem dX5_nodeAOf_6 : decode cX5_nodeAOf 6 = .ok (.ireturn, 1) := by decide +kernel
abbrev rm_xStreets_nodeAOf : Room := { frames := 0, cells := 0, slots := 0, locals := 0 }
def xp_Streets_nodeAOf (u : S4) (x1 : Int32) : Int32 :=
  (s4_ra u 2 x1)
def xq_Streets_nodeAOf (u : S4) (x1 : Int32) : Prop :=
  vp_in x1 12
set_option maxHeartbeats 4000000 in
set_option maxRecDepth 100000 in
theorem xc_Streets_nodeAOf (l : Launch) (D : va_G) (a : Nat → Nat) (k3 : K3) (u : S4) (x1 : Int32) (hq : xq_Streets_nodeAOf u x1) : MI l D vwCl (ty3 k3) nestW (xC a k3) yX5_nodeAOf (kX5_nodeAOf :: tbG) rm_xStreets_nodeAOf [.ref (a 3), .int x1] u (xp_Streets_nodeAOf u x1, u) := by
  refine mkI (cc := cX5_nodeAOf) (maxL := 2) (ret := (some .int)) (by decide) rfl (Nat.le_of_ble_eq_true rfl) ?_
  intro p e s m below meth c A ls F hw hl
  generalize hav : ([.ref (a 3), .int x1] : List Value).toArray = av at F ⊢
  have hl : lv_has ls 2 [(0, .ref (a 3)), (1, .int x1)] := hl
  obtain ⟨hx, hb, hr, hml, hown, hts, hK, hN, hlocks, hA⟩ := id F
  have hown : s.vm.findClass RX5 = some m.cls := hown
  have htG : ∀ w ∈ tbG, w.before av s = true := fun w h => hts w (List.mem_cons_of_mem _ h)
  have f_11 := htG _ tb_71
  have hgo : ∀ P, xp_Streets_nodeAOf u x1 = P → ∀ (H : Heap) (locs : List Loc), wd D vwCl (xC a k3) A s.heap u H locs → W p l e rm_xStreets_nodeAOf s m av below meth c H locs 0 0 (QI below D vwCl (xC a k3) A av s (P, u)) (F0 m 0 ls []) := by
    intro P hP H locs hw
    refine lv_aload_n hx hb dX5_nodeAOf_0 rfl (lv_at hl 0 rfl) ?_
    refine va_get (D := D) (ci := 5) (v := .ref (a 13)) (C := RX5) (T := TX5) (N := 9) hx hb htG in_5 hown hK hw.1 3 (xo_3 a k3 u) rfl 0 (by decide) f_11 (fun _ h9 => h9) rfl dX5_nodeAOf_1 ?_
    refine lv_iload_n hx hb dX5_nodeAOf_4 rfl (lv_at hl 1 rfl) ?_
    have h1 := hq
    refine y_iald (t0 := 0) hx hb hK hw 2 (xo_13 a k3 u) rfl h1 dX5_nodeAOf_5 ?_
    exact ret_i hx hb hr hlocks hw dX5_nodeAOf_6 (congrArg (fun z => (z, u)) hP)
  exact hgo _ rfl s.heap [] hw
theorem dX5_nodeBOf_0 : decode cX5_nodeBOf 0 = .ok (.aload_n 0, 1) := by decide +kernel
theorem dX5_nodeBOf_1 : decode cX5_nodeBOf 1 = .ok (.getfield 15, 3) := by decide +kernel
theorem dX5_nodeBOf_4 : decode cX5_nodeBOf 4 = .ok (.iload_n 1, 1) := by decide +kernel
theorem dX5_nodeBOf_5 : decode cX5_nodeBOf 5 = .ok (.iaload, 1) := by decide +kernel
theorem dX5_nodeBOf_6 : decode cX5_nodeBOf 6 = .ok (.ireturn, 1) := by decide +kernel
abbrev rm_xStreets_nodeBOf : Room := { frames := 0, cells := 0, slots := 0, locals := 0 }
def xp_Streets_nodeBOf (u : S4) (x1 : Int32) : Int32 :=
  (s4_ra u 3 x1)
def xq_Streets_nodeBOf (u : S4) (x1 : Int32) : Prop :=
  vp_in x1 12
set_option maxHeartbeats 4000000 in
set_option maxRecDepth 100000 in
theorem xc_Streets_nodeBOf (l : Launch) (D : va_G) (a : Nat → Nat) (k3 : K3) (u : S4) (x1 : Int32) (hq : xq_Streets_nodeBOf u x1) : MI l D vwCl (ty3 k3) nestW (xC a k3) yX5_nodeBOf (kX5_nodeBOf :: tbG) rm_xStreets_nodeBOf [.ref (a 3), .int x1] u (xp_Streets_nodeBOf u x1, u) := by
  refine mkI (cc := cX5_nodeBOf) (maxL := 2) (ret := (some .int)) (by decide) rfl (Nat.le_of_ble_eq_true rfl) ?_
  intro p e s m below meth c A ls F hw hl
  generalize hav : ([.ref (a 3), .int x1] : List Value).toArray = av at F ⊢
  have hl : lv_has ls 2 [(0, .ref (a 3)), (1, .int x1)] := hl
  obtain ⟨hx, hb, hr, hml, hown, hts, hK, hN, hlocks, hA⟩ := id F
  have hown : s.vm.findClass RX5 = some m.cls := hown
  have htG : ∀ w ∈ tbG, w.before av s = true := fun w h => hts w (List.mem_cons_of_mem _ h)
  have f_15 := htG _ tb_72
  have hgo : ∀ P, xp_Streets_nodeBOf u x1 = P → ∀ (H : Heap) (locs : List Loc), wd D vwCl (xC a k3) A s.heap u H locs → W p l e rm_xStreets_nodeBOf s m av below meth c H locs 0 0 (QI below D vwCl (xC a k3) A av s (P, u)) (F0 m 0 ls []) := by
    intro P hP H locs hw
    refine lv_aload_n hx hb dX5_nodeBOf_0 rfl (lv_at hl 0 rfl) ?_
    refine va_get (D := D) (ci := 5) (v := .ref (a 14)) (C := RX5) (T := TX5) (N := 9) hx hb htG in_5 hown hK hw.1 3 (xo_3 a k3 u) rfl 1 (by decide) f_15 (fun _ h9 => h9) rfl dX5_nodeBOf_1 ?_
    refine lv_iload_n hx hb dX5_nodeBOf_4 rfl (lv_at hl 1 rfl) ?_
    have h1 := hq
    refine y_iald (t0 := 0) hx hb hK hw 3 (xo_14 a k3 u) rfl h1 dX5_nodeBOf_5 ?_
    exact ret_i hx hb hr hlocks hw dX5_nodeBOf_6 (congrArg (fun z => (z, u)) hP)
  exact hgo _ rfl s.heap [] hw
theorem dX5_hasAnyWay_0 : decode cX5_hasAnyWay 0 = .ok (.aload_n 0, 1) := by decide +kernel
theorem dX5_hasAnyWay_1 : decode cX5_hasAnyWay 1 = .ok (.getfield 21, 3) := by decide +kernel
theorem dX5_hasAnyWay_4 : decode cX5_hasAnyWay 4 = .ok (.iload_n 1, 1) := by decide +kernel
theorem dX5_hasAnyWay_5 : decode cX5_hasAnyWay 5 = .ok (.iaload, 1) := by decide +kernel
theorem dX5_hasAnyWay_6 : decode cX5_hasAnyWay 6 = .ok (.iconst 3, 1) := by decide +kernel
theorem dX5_hasAnyWay_7 : decode cX5_hasAnyWay 7 = .ok (.if_icmp .eq 7, 3) := by decide +kernel
theorem dX5_hasAnyWay_10 : decode cX5_hasAnyWay 10 = .ok (.iconst 1, 1) := by decide +kernel
theorem dX5_hasAnyWay_11 : decode cX5_hasAnyWay 11 = .ok (.goto 4, 3) := by decide +kernel
theorem dX5_hasAnyWay_14 : decode cX5_hasAnyWay 14 = .ok (.iconst 0, 1) := by decide +kernel
theorem dX5_hasAnyWay_15 : decode cX5_hasAnyWay 15 = .ok (.ireturn, 1) := by decide +kernel
abbrev rm_xStreets_hasAnyWay : Room := { frames := 0, cells := 0, slots := 0, locals := 0 }
def xp_Streets_hasAnyWay (u : S4) (x1 : Int32) : Int32 :=
  if (s4_ra u 5 x1) = (3 : Int32) then
    (0 : Int32)
  else
    (1 : Int32)
def xq_Streets_hasAnyWay (u : S4) (x1 : Int32) : Prop :=
  vp_in x1 12
set_option maxHeartbeats 4000000 in
set_option maxRecDepth 100000 in
theorem xc_Streets_hasAnyWay (l : Launch) (D : va_G) (a : Nat → Nat) (k3 : K3) (u : S4) (x1 : Int32) (hq : xq_Streets_hasAnyWay u x1) : MI l D vwCl (ty3 k3) nestW (xC a k3) yX5_hasAnyWay (kX5_hasAnyWay :: tbG) rm_xStreets_hasAnyWay [.ref (a 3), .int x1] u (xp_Streets_hasAnyWay u x1, u) := by
  refine mkI (cc := cX5_hasAnyWay) (maxL := 2) (ret := (some .boolean)) (by decide) rfl (Nat.le_of_ble_eq_true rfl) ?_
  intro p e s m below meth c A ls F hw hl
  generalize hav : ([.ref (a 3), .int x1] : List Value).toArray = av at F ⊢
  have hl : lv_has ls 2 [(0, .ref (a 3)), (1, .int x1)] := hl
  obtain ⟨hx, hb, hr, hml, hown, hts, hK, hN, hlocks, hA⟩ := id F
  have hown : s.vm.findClass RX5 = some m.cls := hown
  have htG : ∀ w ∈ tbG, w.before av s = true := fun w h => hts w (List.mem_cons_of_mem _ h)
  have f_21 := htG _ tb_74
  have hgo : ∀ P, xp_Streets_hasAnyWay u x1 = P → ∀ (H : Heap) (locs : List Loc), wd D vwCl (xC a k3) A s.heap u H locs → W p l e rm_xStreets_hasAnyWay s m av below meth c H locs 0 0 (QI below D vwCl (xC a k3) A av s (P, u)) (F0 m 0 ls []) := by
    intro P hP H locs hw
    refine lv_aload_n hx hb dX5_hasAnyWay_0 rfl (lv_at hl 0 rfl) ?_
    refine va_get (D := D) (ci := 5) (v := .ref (a 16)) (C := RX5) (T := TX5) (N := 9) hx hb htG in_5 hown hK hw.1 3 (xo_3 a k3 u) rfl 3 (by decide) f_21 (fun _ h9 => h9) rfl dX5_hasAnyWay_1 ?_
    refine lv_iload_n hx hb dX5_hasAnyWay_4 rfl (lv_at hl 1 rfl) ?_
    have h1 := hq
    refine y_iald (t0 := 0) hx hb hK hw 5 (xo_16 a k3 u) rfl h1 dX5_hasAnyWay_5 ?_
    refine lv_iconst (v := 3) hx hb dX5_hasAnyWay_6 (by decide) ?_
    refine lv_icmp_eq (tgt := 14) hx hb dX5_hasAnyWay_7 (by decide) (fun c2 => ?_) (fun c2 => ?_)
    · have hP := (if_pos c2).symm.trans hP
      refine lv_iconst (v := 0) hx hb dX5_hasAnyWay_14 (by decide) ?_
      exact ret_z hx hb hr hlocks hw rfl dX5_hasAnyWay_15 (congrArg (fun z => (z, u)) hP)
    · have hP := (if_neg c2).symm.trans hP
      refine lv_iconst (v := 1) hx hb dX5_hasAnyWay_10 (by decide) ?_
      refine lv_goto (tgt := 15) hx hb dX5_hasAnyWay_11 (by decide) ?_
      exact ret_z hx hb hr hlocks hw rfl dX5_hasAnyWay_15 (congrArg (fun z => (z, u)) hP)
  exact hgo _ rfl s.heap [] hw
theorem dX2_merge_0 : decode cX2_merge 0 = .ok (.iconst 0, 1) := by decide +kernel
theorem dX2_merge_1 : decode cX2_merge 1 = .ok (.istore_n 3, 1) := by decide +kernel
theorem dX2_merge_2 : decode cX2_merge 2 = .ok (.iload_n 3, 1) := by decide +kernel
theorem dX2_merge_3 : decode cX2_merge 3 = .ok (.aload_n 0, 1) := by decide +kernel
theorem dX2_merge_4 : decode cX2_merge 4 = .ok (.getfield 12, 3) := by decide +kernel
theorem dX2_merge_7 : decode cX2_merge 7 = .ok (.invokevirtual 80, 3) := by decide +kernel
theorem dX2_merge_10 : decode cX2_merge 10 = .ok (.if_icmp .ge 26, 3) := by decide +kernel
theorem dX2_merge_13 : decode cX2_merge 13 = .ok (.aload_n 0, 1) := by decide +kernel
theorem dX2_merge_14 : decode cX2_merge 14 = .ok (.getfield 36, 3) := by decide +kernel
theorem dX2_merge_17 : decode cX2_merge 17 = .ok (.iload_n 3, 1) := by decide +kernel
theorem dX2_merge_18 : decode cX2_merge 18 = .ok (.iaload, 1) := by decide +kernel
theorem dX2_merge_19 : decode cX2_merge 19 = .ok (.iload_n 2, 1) := by decide +kernel
theorem dX2_merge_20 : decode cX2_merge 20 = .ok (.if_icmp .ne 10, 3) := by decide +kernel
theorem dX2_merge_23 : decode cX2_merge 23 = .ok (.aload_n 0, 1) := by decide +kernel
theorem dX2_merge_24 : decode cX2_merge 24 = .ok (.getfield 36, 3) := by decide +kernel
theorem dX2_merge_27 : decode cX2_merge 27 = .ok (.iload_n 3, 1) := by decide +kernel
theorem dX2_merge_28 : decode cX2_merge 28 = .ok (.iload_n 1, 1) := by decide +kernel
theorem dX2_merge_29 : decode cX2_merge 29 = .ok (.iastore, 1) := by decide +kernel
theorem dX2_merge_30 : decode cX2_merge 30 = .ok (.iinc 3 1, 3) := by decide +kernel
theorem dX2_merge_33 : decode cX2_merge 33 = .ok (.goto (-31), 3) := by decide +kernel
theorem dX2_merge_36 : decode cX2_merge 36 = .ok (.return_, 1) := by decide +kernel
abbrev rm_xNet_merge : Room := { frames := 1, cells := 0, slots := 0, locals := 20 }
def xB_Net_merge_2 (K2 : S4 → Int32 → Int32 → Int32 → S4) (u : S4) (y1 : Int32) (y2 : Int32) (y3 : Int32) : S4 :=
  let r1 : Int32 := xp_Nodes_size u
  if r1 ≤ y3 then
    u
  else
    if (s4_ra u 0 y3) = y2 then
      let u7 : S4 := s4_wa u 0 y3 y1
      let v8 : Int32 := (y3 + (1 : Int32))
      K2 u7 y1 y2 v8
    else
      let v5 : Int32 := (y3 + (1 : Int32))
      K2 u y1 y2 v5
def xL_Net_merge_2 : Nat → S4 → Int32 → Int32 → Int32 → S4
  | 0 => fun u _ _ _ => u
  | n + 1 => xB_Net_merge_2 (xL_Net_merge_2 n)
def xBq_Net_merge_2 (Q2 : S4 → Int32 → Int32 → Int32 → Prop) (u : S4) (y1 : Int32) (y2 : Int32) (y3 : Int32) : Prop :=
  let r1 : Int32 := xp_Nodes_size u
  (¬ r1 ≤ y3 →
    vp_in y3 8 ∧
    (((s4_ra u 0 y3) = y2 →
      vp_in y3 8 ∧
      let u7 : S4 := s4_wa u 0 y3 y1
      let v8 : Int32 := (y3 + (1 : Int32))
      Q2 u7 y1 y2 v8) ∧ (¬ (s4_ra u 0 y3) = y2 →
      let v5 : Int32 := (y3 + (1 : Int32))
      Q2 u y1 y2 v5)))
def xLq_Net_merge_2 : Nat → S4 → Int32 → Int32 → Int32 → Prop
  | 0 => fun _ _ _ _ => False
  | n + 1 => xBq_Net_merge_2 (xLq_Net_merge_2 n)
set_option maxHeartbeats 4000000 in
set_option maxRecDepth 100000 in
theorem xs_Net_merge_2 (l : Launch) (D : va_G) (a : Nat → Nat) (k3 : K3) {p : Program} {e : Env} {s : State} {m : MethodId} {below : List Frame} {meth : Method} {c : Code} {A : Nat → Prop} (av : Array Value) (F : Fx p s m meth c av cX2_merge 4 none yX2_merge.cls (kX2_merge :: tbG) D vwCl (ty3 k3) nestW A) (P : S4) (K2 : S4 → Int32 → Int32 → Int32 → S4) (Q2 : S4 → Int32 → Int32 → Int32 → Prop) (hK2 : ∀ (u : S4) (y1 : Int32) (y2 : Int32) (y3 : Int32) (H : Heap) (locs : List Loc) (ls : Array Slot), Q2 u y1 y2 y3 → K2 u y1 y2 y3 = P → wd D vwCl (xC a k3) A s.heap u H locs → lv_has ls 4 [(0, .ref (a 1)), (1, .int y1), (2, .int y2), (3, .int y3)] → W p l e rm_xNet_merge s m av below meth c H locs 0 0 (QV below D vwCl (xC a k3) A av s P) (F0 m 2 ls [])) : ∀ (u : S4) (y1 : Int32) (y2 : Int32) (y3 : Int32) (H : Heap) (locs : List Loc) (ls : Array Slot), xBq_Net_merge_2 Q2 u y1 y2 y3 → xB_Net_merge_2 K2 u y1 y2 y3 = P → wd D vwCl (xC a k3) A s.heap u H locs → lv_has ls 4 [(0, .ref (a 1)), (1, .int y1), (2, .int y2), (3, .int y3)] → W p l e rm_xNet_merge s m av below meth c H locs 0 0 (QV below D vwCl (xC a k3) A av s P) (F0 m 2 ls []) := by
  obtain ⟨hx, hb, hr, hml, hown, hts, hK, hN, hlocks, hA⟩ := id F
  have hown : s.vm.findClass RX2 = some m.cls := hown
  have htG : ∀ w ∈ tbG, w.before av s = true := fun w h => hts w (List.mem_cons_of_mem _ h)
  have f_12 := htG _ tb_113
  have f_36 := htG _ tb_122
  intro u y1 y2 y3 H locs ls hq hP hw hl
  refine lv_iload_n hx hb dX2_merge_2 rfl (lv_at hl 3 rfl) ?_
  refine lv_aload_n hx hb dX2_merge_3 rfl (lv_at hl 0 rfl) ?_
  refine va_get (D := D) (ci := 2) (v := .ref (a 2)) (C := RX2) (T := TX2) (N := 5) hx hb htG in_2 hown hK hw.1 1 (xo_1 a k3 u) rfl 0 (by decide) f_12 (fun _ h9 => h9) rfl dX2_merge_4 ?_
  let r1 : Int32 := xp_Nodes_size u
  refine call_vir (rest := [.int y3]) ⟨hx, hb, hml, hown, htG⟩ nestW_ok hK hN hA (xc_Nodes_size l D a k3 u) (cwV 0 htG (tb_V tb_471 tb_472 tb_473 tb_22 tb_474) rfl rfl rfl (by decide +kernel) ⟨Nat.le_of_ble_eq_true rfl, Nat.le_of_ble_eq_true rfl⟩) (ci := 3) rfl (xo_2 a k3 u) rfl hw rfl hl.1 rfl (Nat.le_of_ble_eq_true rfl) dX2_merge_7 ⟨Nat.zero_le _, Nat.zero_le _⟩ (fun H locs (hw : wd D vwCl (xC a k3) A s.heap u H locs) => ?_)
  refine lv_icmp_ge (tgt := 36) hx hb dX2_merge_10 (by decide) (fun c2 => ?_) (fun c2 => ?_)
  · have hP := (if_pos c2).symm.trans hP
    exact ret_v hx hb hr hlocks hw dX2_merge_36 hP
  · have hP := (if_neg c2).symm.trans hP
    have hq := hq c2
    refine lv_aload_n hx hb dX2_merge_13 rfl (lv_at hl 0 rfl) ?_
    refine va_get (D := D) (ci := 2) (v := .ref (a 9)) (C := RX2) (T := TX2) (N := 5) hx hb htG in_2 hown hK hw.1 1 (xo_1 a k3 u) rfl 4 (by decide) f_36 (fun _ h9 => h9) rfl dX2_merge_14 ?_
    refine lv_iload_n hx hb dX2_merge_17 rfl (lv_at hl 3 rfl) ?_
    obtain ⟨h3, hq⟩ := hq
    refine y_iald (t0 := 0) hx hb hK hw 0 (xo_9 a k3 u) rfl h3 dX2_merge_18 ?_
    refine lv_iload_n hx hb dX2_merge_19 rfl (lv_at hl 2 rfl) ?_
    refine lv_icmp_ne (tgt := 30) hx hb dX2_merge_20 (by decide) (fun c4 => ?_) (fun c4 => ?_)
    · have hP := (if_neg c4).symm.trans hP
      have hq := hq.2 c4
      let v5 : Int32 := (y3 + (1 : Int32))
      refine lv_iinc (v := v5) (lv' := [(3, .int v5), (0, .ref (a 1)), (1, .int y1), (2, .int y2)]) hx hb dX2_merge_30 hl (k := 3) rfl rfl (by decide) rfl (fun ls hl => ?_)
      refine lv_goto (tgt := 2) hx hb dX2_merge_33 (by decide) ?_
      exact hK2 u (y1) (y2) (v5) H locs ls hq hP hw (lv_sub hl [1, 2, 3, 0] rfl)
    · have hP := (if_pos c4).symm.trans hP
      have hq := hq.1 c4
      refine lv_aload_n hx hb dX2_merge_23 rfl (lv_at hl 0 rfl) ?_
      refine va_get (D := D) (ci := 2) (v := .ref (a 9)) (C := RX2) (T := TX2) (N := 5) hx hb htG in_2 hown hK hw.1 1 (xo_1 a k3 u) rfl 4 (by decide) f_36 (fun _ h9 => h9) rfl dX2_merge_24 ?_
      refine lv_iload_n hx hb dX2_merge_27 rfl (lv_at hl 3 rfl) ?_
      refine lv_iload_n hx hb dX2_merge_28 rfl (lv_at hl 1 rfl) ?_
      obtain ⟨h6, hq⟩ := hq
      let u7 : S4 := s4_wa u 0 y3 y1
      refine y_iast (t0 := 0) hx hb hK hw 0 (xo_9 a k3 u) (xq_9 a k3 u) rfl h6 dX2_merge_29 (fun H locs (hw : wd D vwCl (xC a k3) A s.heap u7 H locs) => ?_)
      let v8 : Int32 := (y3 + (1 : Int32))
      refine lv_iinc (v := v8) (lv' := [(3, .int v8), (0, .ref (a 1)), (1, .int y1), (2, .int y2)]) hx hb dX2_merge_30 hl (k := 3) rfl rfl (by decide) rfl (fun ls hl => ?_)
      refine lv_goto (tgt := 2) hx hb dX2_merge_33 (by decide) ?_
      exact hK2 u7 (y1) (y2) (v8) H locs ls hq hP hw (lv_sub hl [1, 2, 3, 0] rfl)
set_option maxHeartbeats 4000000 in
set_option maxRecDepth 100000 in
theorem xw_Net_merge_2 (l : Launch) (D : va_G) (a : Nat → Nat) (k3 : K3) {p : Program} {e : Env} {s : State} {m : MethodId} {below : List Frame} {meth : Method} {c : Code} {A : Nat → Prop} (av : Array Value) (F : Fx p s m meth c av cX2_merge 4 none yX2_merge.cls (kX2_merge :: tbG) D vwCl (ty3 k3) nestW A) (P : S4) : ∀ (n : Nat), ∀ (u : S4) (y1 : Int32) (y2 : Int32) (y3 : Int32) (H : Heap) (locs : List Loc) (ls : Array Slot), xLq_Net_merge_2 n u y1 y2 y3 → xL_Net_merge_2 n u y1 y2 y3 = P → wd D vwCl (xC a k3) A s.heap u H locs → lv_has ls 4 [(0, .ref (a 1)), (1, .int y1), (2, .int y2), (3, .int y3)] → W p l e rm_xNet_merge s m av below meth c H locs 0 0 (QV below D vwCl (xC a k3) A av s P) (F0 m 2 ls []) := by
  intro n
  induction n with
  | zero => intro u y1 y2 y3 H locs ls hq hP hw hl; exact hq.elim
  | succ n ih => intro u y1 y2 y3 H locs ls hq hP hw hl; exact xs_Net_merge_2 l D a k3 av F P (xL_Net_merge_2 n) (xLq_Net_merge_2 n) ih u y1 y2 y3 H locs ls hq hP hw hl
def xp_Net_merge (u : S4) (x1 : Int32) (x2 : Int32) : S4 :=
  xL_Net_merge_2 64 u x1 x2 (0 : Int32)
def xq_Net_merge (u : S4) (x1 : Int32) (x2 : Int32) : Prop :=
  xLq_Net_merge_2 64 u x1 x2 (0 : Int32)
set_option maxHeartbeats 4000000 in
set_option maxRecDepth 100000 in
theorem xc_Net_merge (l : Launch) (D : va_G) (a : Nat → Nat) (k3 : K3) (u : S4) (x1 : Int32) (x2 : Int32) (hq : xq_Net_merge u x1 x2) : MV l D vwCl (ty3 k3) nestW (xC a k3) yX2_merge (kX2_merge :: tbG) rm_xNet_merge [.ref (a 1), .int x1, .int x2] u (xp_Net_merge u x1 x2) := by
  refine mkV (cc := cX2_merge) (maxL := 4) (ret := none) (by decide) rfl (Nat.le_of_ble_eq_true rfl) ?_
  intro p e s m below meth c A ls F hw hl
  generalize hav : ([.ref (a 1), .int x1, .int x2] : List Value).toArray = av at F ⊢
  have hl : lv_has ls 4 [(0, .ref (a 1)), (1, .int x1), (2, .int x2)] := hl
  obtain ⟨hx, hb, hr, hml, hown, hts, hK, hN, hlocks, hA⟩ := id F
  have hown : s.vm.findClass RX2 = some m.cls := hown
  have htG : ∀ w ∈ tbG, w.before av s = true := fun w h => hts w (List.mem_cons_of_mem _ h)
  have hgo : ∀ P, xp_Net_merge u x1 x2 = P → ∀ (H : Heap) (locs : List Loc), wd D vwCl (xC a k3) A s.heap u H locs → W p l e rm_xNet_merge s m av below meth c H locs 0 0 (QV below D vwCl (xC a k3) A av s P) (F0 m 0 ls []) := by
    intro P hP H locs hw
    refine lv_iconst (v := 0) hx hb dX2_merge_0 (by decide) ?_
    refine lv_istore_n (lv' := [(3, .int (0 : Int32)), (0, .ref (a 1)), (1, .int x1), (2, .int x2)]) hx hb dX2_merge_1 rfl hl (by decide) rfl (fun ls hl => ?_)
    exact xw_Net_merge_2 l D a k3 av F P 64 u x1 x2 (0 : Int32) H locs ls hq hP hw (lv_sub hl [1, 2, 3, 0] rfl)
  exact hgo _ rfl s.heap [] hw
theorem dX2_countPieces_0 : decode cX2_countPieces 0 = .ok (.aload_n 0, 1) := by decide +kernel
theorem dX2_countPieces_1 : decode cX2_countPieces 1 = .ok (.getfield 12, 3) := by decide +kernel
theorem dX2_countPieces_4 : decode cX2_countPieces 4 = .ok (.invokevirtual 80, 3) := by decide +kernel
theorem dX2_countPieces_7 : decode cX2_countPieces 7 = .ok (.istore_n 1, 1) := by decide +kernel
theorem dX2_countPieces_8 : decode cX2_countPieces 8 = .ok (.iconst 0, 1) := by decide +kernel
theorem dX2_countPieces_9 : decode cX2_countPieces 9 = .ok (.istore_n 2, 1) := by decide +kernel
theorem dX2_countPieces_10 : decode cX2_countPieces 10 = .ok (.iload_n 2, 1) := by decide +kernel
theorem dX2_countPieces_11 : decode cX2_countPieces 11 = .ok (.aload_n 0, 1) := by decide +kernel
theorem dX2_countPieces_12 : decode cX2_countPieces 12 = .ok (.getfield 12, 3) := by decide +kernel
theorem dX2_countPieces_15 : decode cX2_countPieces 15 = .ok (.invokevirtual 80, 3) := by decide +kernel
theorem dX2_countPieces_18 : decode cX2_countPieces 18 = .ok (.if_icmp .ge 16, 3) := by decide +kernel
theorem dX2_countPieces_21 : decode cX2_countPieces 21 = .ok (.aload_n 0, 1) := by decide +kernel
theorem dX2_countPieces_22 : decode cX2_countPieces 22 = .ok (.getfield 36, 3) := by decide +kernel
theorem dX2_countPieces_25 : decode cX2_countPieces 25 = .ok (.iload_n 2, 1) := by decide +kernel
theorem dX2_countPieces_26 : decode cX2_countPieces 26 = .ok (.iload_n 2, 1) := by decide +kernel
theorem dX2_countPieces_27 : decode cX2_countPieces 27 = .ok (.iastore, 1) := by decide +kernel
theorem dX2_countPieces_28 : decode cX2_countPieces 28 = .ok (.iinc 2 1, 3) := by decide +kernel
theorem dX2_countPieces_31 : decode cX2_countPieces 31 = .ok (.goto (-21), 3) := by decide +kernel
theorem dX2_countPieces_34 : decode cX2_countPieces 34 = .ok (.iconst 0, 1) := by decide +kernel
theorem dX2_countPieces_35 : decode cX2_countPieces 35 = .ok (.istore_n 2, 1) := by decide +kernel
theorem dX2_countPieces_36 : decode cX2_countPieces 36 = .ok (.iload_n 2, 1) := by decide +kernel
theorem dX2_countPieces_37 : decode cX2_countPieces 37 = .ok (.aload_n 0, 1) := by decide +kernel
theorem dX2_countPieces_38 : decode cX2_countPieces 38 = .ok (.getfield 21, 3) := by decide +kernel
theorem dX2_countPieces_41 : decode cX2_countPieces 41 = .ok (.invokevirtual 84, 3) := by decide +kernel
theorem dX2_countPieces_44 : decode cX2_countPieces 44 = .ok (.if_icmp .ge 65, 3) := by decide +kernel
theorem dX2_countPieces_47 : decode cX2_countPieces 47 = .ok (.aload_n 0, 1) := by decide +kernel
theorem dX2_countPieces_48 : decode cX2_countPieces 48 = .ok (.getfield 36, 3) := by decide +kernel
theorem dX2_countPieces_51 : decode cX2_countPieces 51 = .ok (.aload_n 0, 1) := by decide +kernel
theorem dX2_countPieces_52 : decode cX2_countPieces 52 = .ok (.getfield 21, 3) := by decide +kernel
theorem dX2_countPieces_55 : decode cX2_countPieces 55 = .ok (.iload_n 2, 1) := by decide +kernel
theorem dX2_countPieces_56 : decode cX2_countPieces 56 = .ok (.invokevirtual 85, 3) := by decide +kernel
theorem dX2_countPieces_59 : decode cX2_countPieces 59 = .ok (.iaload, 1) := by decide +kernel
theorem dX2_countPieces_60 : decode cX2_countPieces 60 = .ok (.istore_n 3, 1) := by decide +kernel
theorem dX2_countPieces_61 : decode cX2_countPieces 61 = .ok (.aload_n 0, 1) := by decide +kernel
theorem dX2_countPieces_62 : decode cX2_countPieces 62 = .ok (.getfield 36, 3) := by decide +kernel
theorem dX2_countPieces_65 : decode cX2_countPieces 65 = .ok (.aload_n 0, 1) := by decide +kernel
theorem dX2_countPieces_66 : decode cX2_countPieces 66 = .ok (.getfield 21, 3) := by decide +kernel
theorem dX2_countPieces_69 : decode cX2_countPieces 69 = .ok (.iload_n 2, 1) := by decide +kernel
theorem dX2_countPieces_70 : decode cX2_countPieces 70 = .ok (.invokevirtual 88, 3) := by decide +kernel
theorem dX2_countPieces_73 : decode cX2_countPieces 73 = .ok (.iaload, 1) := by decide +kernel
theorem dX2_countPieces_74 : decode cX2_countPieces 74 = .ok (.istore 4, 2) := by decide +kernel
theorem dX2_countPieces_76 : decode cX2_countPieces 76 = .ok (.aload_n 0, 1) := by decide +kernel
theorem dX2_countPieces_77 : decode cX2_countPieces 77 = .ok (.getfield 21, 3) := by decide +kernel
theorem dX2_countPieces_80 : decode cX2_countPieces 80 = .ok (.iload_n 2, 1) := by decide +kernel
theorem dX2_countPieces_81 : decode cX2_countPieces 81 = .ok (.invokevirtual 91, 3) := by decide +kernel
theorem dX2_countPieces_84 : decode cX2_countPieces 84 = .ok (.ifCond .eq 19, 3) := by decide +kernel
theorem dX2_countPieces_87 : decode cX2_countPieces 87 = .ok (.iload_n 3, 1) := by decide +kernel
theorem dX2_countPieces_88 : decode cX2_countPieces 88 = .ok (.iload 4, 2) := by decide +kernel
theorem dX2_countPieces_90 : decode cX2_countPieces 90 = .ok (.if_icmp .eq 13, 3) := by decide +kernel
theorem dX2_countPieces_93 : decode cX2_countPieces 93 = .ok (.aload_n 0, 1) := by decide +kernel
theorem dX2_countPieces_94 : decode cX2_countPieces 94 = .ok (.iload_n 3, 1) := by decide +kernel
theorem dX2_countPieces_95 : decode cX2_countPieces 95 = .ok (.iload 4, 2) := by decide +kernel
theorem dX2_countPieces_97 : decode cX2_countPieces 97 = .ok (.invokevirtual 94, 3) := by decide +kernel
theorem dX2_countPieces_100 : decode cX2_countPieces 100 = .ok (.iinc 1 (-1), 3) := by decide +kernel
theorem dX2_countPieces_103 : decode cX2_countPieces 103 = .ok (.iinc 2 1, 3) := by decide +kernel
theorem dX2_countPieces_106 : decode cX2_countPieces 106 = .ok (.goto (-70), 3) := by decide +kernel
theorem dX2_countPieces_109 : decode cX2_countPieces 109 = .ok (.iload_n 1, 1) := by decide +kernel
theorem dX2_countPieces_110 : decode cX2_countPieces 110 = .ok (.ireturn, 1) := by decide +kernel
abbrev rm_xNet_countPieces : Room := { frames := 2, cells := 0, slots := 0, locals := 43 }
def xB_Net_countPieces_36 (K36 : S4 → Int32 → Int32 → (Int32 × S4)) (u : S4) (y1 : Int32) (y2 : Int32) : Int32 × S4 :=
  let r4 : Int32 := xp_Streets_size u
  if r4 ≤ y2 then
    (y1, u)
  else
    let r7 : Int32 := xp_Streets_nodeAOf u y2
    let v9 : Int32 := (s4_ra u 0 r7)
    let r11 : Int32 := xp_Streets_nodeBOf u y2
    let v13 : Int32 := (s4_ra u 0 r11)
    let r15 : Int32 := xp_Streets_hasAnyWay u y2
    if r15 = (0 : Int32) then
      let v17 : Int32 := (y2 + (1 : Int32))
      K36 u y1 v17
    else
      if v9 = v13 then
        let v19 : Int32 := (y2 + (1 : Int32))
        K36 u y1 v19
      else
        let u21 : S4 := xp_Net_merge u v9 v13
        let v22 : Int32 := (y1 + (-1 : Int32))
        let v23 : Int32 := (y2 + (1 : Int32))
        K36 u21 v22 v23
def xL_Net_countPieces_36 : Nat → S4 → Int32 → Int32 → (Int32 × S4)
  | 0 => fun u _ _ => (0, u)
  | n + 1 => xB_Net_countPieces_36 (xL_Net_countPieces_36 n)
def xBq_Net_countPieces_36 (Q36 : S4 → Int32 → Int32 → Prop) (u : S4) (y1 : Int32) (y2 : Int32) : Prop :=
  let r4 : Int32 := xp_Streets_size u
  (¬ r4 ≤ y2 →
    xq_Streets_nodeAOf u y2 ∧
    let r7 : Int32 := xp_Streets_nodeAOf u y2
    vp_in r7 8 ∧
    let v9 : Int32 := (s4_ra u 0 r7)
    xq_Streets_nodeBOf u y2 ∧
    let r11 : Int32 := xp_Streets_nodeBOf u y2
    vp_in r11 8 ∧
    let v13 : Int32 := (s4_ra u 0 r11)
    xq_Streets_hasAnyWay u y2 ∧
    let r15 : Int32 := xp_Streets_hasAnyWay u y2
    ((r15 = (0 : Int32) →
      let v17 : Int32 := (y2 + (1 : Int32))
      Q36 u y1 v17) ∧ (¬ r15 = (0 : Int32) →
      ((v9 = v13 →
        let v19 : Int32 := (y2 + (1 : Int32))
        Q36 u y1 v19) ∧ (¬ v9 = v13 →
        xq_Net_merge u v9 v13 ∧
        let u21 : S4 := xp_Net_merge u v9 v13
        let v22 : Int32 := (y1 + (-1 : Int32))
        let v23 : Int32 := (y2 + (1 : Int32))
        Q36 u21 v22 v23)))))
def xLq_Net_countPieces_36 : Nat → S4 → Int32 → Int32 → Prop
  | 0 => fun _ _ _ => False
  | n + 1 => xBq_Net_countPieces_36 (xLq_Net_countPieces_36 n)
set_option maxHeartbeats 4000000 in
set_option maxRecDepth 100000 in
theorem xs_Net_countPieces_36 (l : Launch) (D : va_G) (a : Nat → Nat) (k3 : K3) {p : Program} {e : Env} {s : State} {m : MethodId} {below : List Frame} {meth : Method} {c : Code} {A : Nat → Prop} (av : Array Value) (F : Fx p s m meth c av cX2_countPieces 5 (some .int) yX2_countPieces.cls (kX2_countPieces :: tbG) D vwCl (ty3 k3) nestW A) (P : Int32 × S4) (K36 : S4 → Int32 → Int32 → (Int32 × S4)) (Q36 : S4 → Int32 → Int32 → Prop) (hK36 : ∀ (u : S4) (y1 : Int32) (y2 : Int32) (H : Heap) (locs : List Loc) (ls : Array Slot), Q36 u y1 y2 → K36 u y1 y2 = P → wd D vwCl (xC a k3) A s.heap u H locs → lv_has ls 5 [(0, .ref (a 1)), (1, .int y1), (2, .int y2)] → W p l e rm_xNet_countPieces s m av below meth c H locs 0 0 (QI below D vwCl (xC a k3) A av s P) (F0 m 36 ls [])) : ∀ (u : S4) (y1 : Int32) (y2 : Int32) (H : Heap) (locs : List Loc) (ls : Array Slot), xBq_Net_countPieces_36 Q36 u y1 y2 → xB_Net_countPieces_36 K36 u y1 y2 = P → wd D vwCl (xC a k3) A s.heap u H locs → lv_has ls 5 [(0, .ref (a 1)), (1, .int y1), (2, .int y2)] → W p l e rm_xNet_countPieces s m av below meth c H locs 0 0 (QI below D vwCl (xC a k3) A av s P) (F0 m 36 ls []) := by
  obtain ⟨hx, hb, hr, hml, hown, hts, hK, hN, hlocks, hA⟩ := id F
  have hown : s.vm.findClass RX2 = some m.cls := hown
  have htG : ∀ w ∈ tbG, w.before av s = true := fun w h => hts w (List.mem_cons_of_mem _ h)
  have f_21 := htG _ tb_115
  have f_36 := htG _ tb_122
  intro u y1 y2 H locs ls hq hP hw hl
  refine lv_iload_n hx hb dX2_countPieces_36 rfl (lv_at hl 2 rfl) ?_
  refine lv_aload_n hx hb dX2_countPieces_37 rfl (lv_at hl 0 rfl) ?_
  refine va_get (D := D) (ci := 2) (v := .ref (a 3)) (C := RX2) (T := TX2) (N := 5) hx hb htG in_2 hown hK hw.1 1 (xo_1 a k3 u) rfl 1 (by decide) f_21 (fun _ h9 => h9) rfl dX2_countPieces_38 ?_
  let r4 : Int32 := xp_Streets_size u
  refine call_vir (rest := [.int y2]) ⟨hx, hb, hml, hown, htG⟩ nestW_ok hK hN hA (xc_Streets_size l D a k3 u) (cwV 0 htG (tb_V tb_475 tb_476 tb_477 tb_23 tb_478) rfl rfl rfl (by decide +kernel) ⟨Nat.le_of_ble_eq_true rfl, Nat.le_of_ble_eq_true rfl⟩) (ci := 5) rfl (xo_3 a k3 u) rfl hw rfl hl.1 rfl (Nat.le_of_ble_eq_true rfl) dX2_countPieces_41 ⟨Nat.zero_le _, Nat.zero_le _⟩ (fun H locs (hw : wd D vwCl (xC a k3) A s.heap u H locs) => ?_)
  refine lv_icmp_ge (tgt := 109) hx hb dX2_countPieces_44 (by decide) (fun c5 => ?_) (fun c5 => ?_)
  · have hP := (if_pos c5).symm.trans hP
    refine lv_iload_n hx hb dX2_countPieces_109 rfl (lv_at hl 1 rfl) ?_
    exact ret_i hx hb hr hlocks hw dX2_countPieces_110 hP
  · have hP := (if_neg c5).symm.trans hP
    have hq := hq c5
    refine lv_aload_n hx hb dX2_countPieces_47 rfl (lv_at hl 0 rfl) ?_
    refine va_get (D := D) (ci := 2) (v := .ref (a 9)) (C := RX2) (T := TX2) (N := 5) hx hb htG in_2 hown hK hw.1 1 (xo_1 a k3 u) rfl 4 (by decide) f_36 (fun _ h9 => h9) rfl dX2_countPieces_48 ?_
    refine lv_aload_n hx hb dX2_countPieces_51 rfl (lv_at hl 0 rfl) ?_
    refine va_get (D := D) (ci := 2) (v := .ref (a 3)) (C := RX2) (T := TX2) (N := 5) hx hb htG in_2 hown hK hw.1 1 (xo_1 a k3 u) rfl 1 (by decide) f_21 (fun _ h9 => h9) rfl dX2_countPieces_52 ?_
    refine lv_iload_n hx hb dX2_countPieces_55 rfl (lv_at hl 2 rfl) ?_
    obtain ⟨h6, hq⟩ := hq
    let r7 : Int32 := xp_Streets_nodeAOf u y2
    refine call_vir (rest := [.ref (a 9)]) ⟨hx, hb, hml, hown, htG⟩ nestW_ok hK hN hA (xc_Streets_nodeAOf l D a k3 u y2 h6) (cwV 1 htG (tb_V tb_479 tb_480 tb_481 tb_23 tb_482) rfl rfl rfl (by decide +kernel) ⟨Nat.le_of_ble_eq_true rfl, Nat.le_of_ble_eq_true rfl⟩) (ci := 5) rfl (xo_3 a k3 u) rfl hw rfl hl.1 rfl (Nat.le_of_ble_eq_true rfl) dX2_countPieces_56 ⟨Nat.zero_le _, Nat.zero_le _⟩ (fun H locs (hw : wd D vwCl (xC a k3) A s.heap u H locs) => ?_)
    obtain ⟨h8, hq⟩ := hq
    refine y_iald (t0 := 0) hx hb hK hw 0 (xo_9 a k3 u) rfl h8 dX2_countPieces_59 ?_
    let v9 : Int32 := (s4_ra u 0 r7)
    refine lv_istore_n (lv' := [(3, .int v9), (0, .ref (a 1)), (1, .int y1), (2, .int y2)]) hx hb dX2_countPieces_60 rfl hl (by decide) rfl (fun ls hl => ?_)
    refine lv_aload_n hx hb dX2_countPieces_61 rfl (lv_at hl 1 rfl) ?_
    refine va_get (D := D) (ci := 2) (v := .ref (a 9)) (C := RX2) (T := TX2) (N := 5) hx hb htG in_2 hown hK hw.1 1 (xo_1 a k3 u) rfl 4 (by decide) f_36 (fun _ h9 => h9) rfl dX2_countPieces_62 ?_
    refine lv_aload_n hx hb dX2_countPieces_65 rfl (lv_at hl 1 rfl) ?_
    refine va_get (D := D) (ci := 2) (v := .ref (a 3)) (C := RX2) (T := TX2) (N := 5) hx hb htG in_2 hown hK hw.1 1 (xo_1 a k3 u) rfl 1 (by decide) f_21 (fun _ h9 => h9) rfl dX2_countPieces_66 ?_
    refine lv_iload_n hx hb dX2_countPieces_69 rfl (lv_at hl 3 rfl) ?_
    obtain ⟨h10, hq⟩ := hq
    let r11 : Int32 := xp_Streets_nodeBOf u y2
    refine call_vir (rest := [.ref (a 9)]) ⟨hx, hb, hml, hown, htG⟩ nestW_ok hK hN hA (xc_Streets_nodeBOf l D a k3 u y2 h10) (cwV 1 htG (tb_V tb_483 tb_484 tb_485 tb_23 tb_486) rfl rfl rfl (by decide +kernel) ⟨Nat.le_of_ble_eq_true rfl, Nat.le_of_ble_eq_true rfl⟩) (ci := 5) rfl (xo_3 a k3 u) rfl hw rfl hl.1 rfl (Nat.le_of_ble_eq_true rfl) dX2_countPieces_70 ⟨Nat.zero_le _, Nat.zero_le _⟩ (fun H locs (hw : wd D vwCl (xC a k3) A s.heap u H locs) => ?_)
    obtain ⟨h12, hq⟩ := hq
    refine y_iald (t0 := 0) hx hb hK hw 0 (xo_9 a k3 u) rfl h12 dX2_countPieces_73 ?_
    let v13 : Int32 := (s4_ra u 0 r11)
    refine lv_istore (lv' := [(4, .int v13), (3, .int v9), (0, .ref (a 1)), (1, .int y1), (2, .int y2)]) hx hb dX2_countPieces_74 hl (by decide) rfl (fun ls hl => ?_)
    refine lv_aload_n hx hb dX2_countPieces_76 rfl (lv_at hl 2 rfl) ?_
    refine va_get (D := D) (ci := 2) (v := .ref (a 3)) (C := RX2) (T := TX2) (N := 5) hx hb htG in_2 hown hK hw.1 1 (xo_1 a k3 u) rfl 1 (by decide) f_21 (fun _ h9 => h9) rfl dX2_countPieces_77 ?_
    refine lv_iload_n hx hb dX2_countPieces_80 rfl (lv_at hl 4 rfl) ?_
    obtain ⟨h14, hq⟩ := hq
    let r15 : Int32 := xp_Streets_hasAnyWay u y2
    refine call_vir (rest := []) ⟨hx, hb, hml, hown, htG⟩ nestW_ok hK hN hA (xc_Streets_hasAnyWay l D a k3 u y2 h14) (cwV 1 htG (tb_V tb_487 tb_488 tb_489 tb_23 tb_490) rfl rfl rfl (by decide +kernel) ⟨Nat.le_of_ble_eq_true rfl, Nat.le_of_ble_eq_true rfl⟩) (ci := 5) rfl (xo_3 a k3 u) rfl hw rfl hl.1 rfl (Nat.le_of_ble_eq_true rfl) dX2_countPieces_81 ⟨Nat.zero_le _, Nat.zero_le _⟩ (fun H locs (hw : wd D vwCl (xC a k3) A s.heap u H locs) => ?_)
    refine lv_if_eq (tgt := 103) hx hb dX2_countPieces_84 (by decide) (fun c16 => ?_) (fun c16 => ?_)
    · have hP := (if_pos c16).symm.trans hP
      have hq := hq.1 c16
      let v17 : Int32 := (y2 + (1 : Int32))
      refine lv_iinc (v := v17) (lv' := [(2, .int v17), (4, .int v13), (3, .int v9), (0, .ref (a 1)), (1, .int y1)]) hx hb dX2_countPieces_103 hl (k := 4) rfl rfl (by decide) rfl (fun ls hl => ?_)
      refine lv_goto (tgt := 36) hx hb dX2_countPieces_106 (by decide) ?_
      exact hK36 u (y1) (v17) H locs ls hq hP hw (lv_sub hl [3, 4, 0] rfl)
    · have hP := (if_neg c16).symm.trans hP
      have hq := hq.2 c16
      refine lv_iload_n hx hb dX2_countPieces_87 rfl (lv_at hl 1 rfl) ?_
      refine lv_iload hx hb dX2_countPieces_88 (lv_at hl 0 rfl) ?_
      refine lv_icmp_eq (tgt := 103) hx hb dX2_countPieces_90 (by decide) (fun c18 => ?_) (fun c18 => ?_)
      · have hP := (if_pos c18).symm.trans hP
        have hq := hq.1 c18
        let v19 : Int32 := (y2 + (1 : Int32))
        refine lv_iinc (v := v19) (lv' := [(2, .int v19), (4, .int v13), (3, .int v9), (0, .ref (a 1)), (1, .int y1)]) hx hb dX2_countPieces_103 hl (k := 4) rfl rfl (by decide) rfl (fun ls hl => ?_)
        refine lv_goto (tgt := 36) hx hb dX2_countPieces_106 (by decide) ?_
        exact hK36 u (y1) (v19) H locs ls hq hP hw (lv_sub hl [3, 4, 0] rfl)
      · have hP := (if_neg c18).symm.trans hP
        have hq := hq.2 c18
        refine lv_aload_n hx hb dX2_countPieces_93 rfl (lv_at hl 2 rfl) ?_
        refine lv_iload_n hx hb dX2_countPieces_94 rfl (lv_at hl 1 rfl) ?_
        refine lv_iload hx hb dX2_countPieces_95 (lv_at hl 0 rfl) ?_
        obtain ⟨h20, hq⟩ := hq
        let u21 : S4 := xp_Net_merge u v9 v13
        refine call_vv (rest := []) ⟨hx, hb, hml, hown, htG⟩ nestW_ok hK hN hA (xc_Net_merge l D a k3 u v9 v13 h20) (cwV 2 htG (tb_V tb_491 tb_493 tb_8 tb_21 tb_494) rfl rfl rfl (by decide +kernel) ⟨Nat.le_of_ble_eq_true rfl, Nat.le_of_ble_eq_true rfl⟩) (ci := 2) rfl (xo_1 a k3 u) rfl hw rfl hl.1 rfl (Nat.le_of_ble_eq_true rfl) dX2_countPieces_97 ⟨Nat.zero_le _, Nat.zero_le _⟩ (fun H locs (hw : wd D vwCl (xC a k3) A s.heap u21 H locs) => ?_)
        let v22 : Int32 := (y1 + (-1 : Int32))
        refine lv_iinc (v := v22) (lv' := [(1, .int v22), (4, .int v13), (3, .int v9), (0, .ref (a 1)), (2, .int y2)]) hx hb dX2_countPieces_100 hl (k := 3) rfl rfl (by decide) rfl (fun ls hl => ?_)
        let v23 : Int32 := (y2 + (1 : Int32))
        refine lv_iinc (v := v23) (lv' := [(2, .int v23), (1, .int v22), (4, .int v13), (3, .int v9), (0, .ref (a 1))]) hx hb dX2_countPieces_103 hl (k := 4) rfl rfl (by decide) rfl (fun ls hl => ?_)
        refine lv_goto (tgt := 36) hx hb dX2_countPieces_106 (by decide) ?_
        exact hK36 u21 (v22) (v23) H locs ls hq hP hw (lv_sub hl [4, 1, 0] rfl)
set_option maxHeartbeats 4000000 in
set_option maxRecDepth 100000 in
theorem xw_Net_countPieces_36 (l : Launch) (D : va_G) (a : Nat → Nat) (k3 : K3) {p : Program} {e : Env} {s : State} {m : MethodId} {below : List Frame} {meth : Method} {c : Code} {A : Nat → Prop} (av : Array Value) (F : Fx p s m meth c av cX2_countPieces 5 (some .int) yX2_countPieces.cls (kX2_countPieces :: tbG) D vwCl (ty3 k3) nestW A) (P : Int32 × S4) : ∀ (n : Nat), ∀ (u : S4) (y1 : Int32) (y2 : Int32) (H : Heap) (locs : List Loc) (ls : Array Slot), xLq_Net_countPieces_36 n u y1 y2 → xL_Net_countPieces_36 n u y1 y2 = P → wd D vwCl (xC a k3) A s.heap u H locs → lv_has ls 5 [(0, .ref (a 1)), (1, .int y1), (2, .int y2)] → W p l e rm_xNet_countPieces s m av below meth c H locs 0 0 (QI below D vwCl (xC a k3) A av s P) (F0 m 36 ls []) := by
  intro n
  induction n with
  | zero => intro u y1 y2 H locs ls hq hP hw hl; exact hq.elim
  | succ n ih => intro u y1 y2 H locs ls hq hP hw hl; exact xs_Net_countPieces_36 l D a k3 av F P (xL_Net_countPieces_36 n) (xLq_Net_countPieces_36 n) ih u y1 y2 H locs ls hq hP hw hl
def xB_Net_countPieces_10 (K10 : S4 → Int32 → Int32 → (Int32 × S4)) (u : S4) (y1 : Int32) (y2 : Int32) : Int32 × S4 :=
  let r2 : Int32 := xp_Nodes_size u
  if r2 ≤ y2 then
    xL_Net_countPieces_36 64 u y1 (0 : Int32)
  else
    let u25 : S4 := s4_wa u 0 y2 y2
    let v26 : Int32 := (y2 + (1 : Int32))
    K10 u25 y1 v26
def xL_Net_countPieces_10 : Nat → S4 → Int32 → Int32 → (Int32 × S4)
  | 0 => fun u _ _ => (0, u)
  | n + 1 => xB_Net_countPieces_10 (xL_Net_countPieces_10 n)
def xBq_Net_countPieces_10 (Q10 : S4 → Int32 → Int32 → Prop) (u : S4) (y1 : Int32) (y2 : Int32) : Prop :=
  let r2 : Int32 := xp_Nodes_size u
  ((r2 ≤ y2 →
    xLq_Net_countPieces_36 64 u y1 (0 : Int32)) ∧ (¬ r2 ≤ y2 →
    vp_in y2 8 ∧
    let u25 : S4 := s4_wa u 0 y2 y2
    let v26 : Int32 := (y2 + (1 : Int32))
    Q10 u25 y1 v26))
def xLq_Net_countPieces_10 : Nat → S4 → Int32 → Int32 → Prop
  | 0 => fun _ _ _ => False
  | n + 1 => xBq_Net_countPieces_10 (xLq_Net_countPieces_10 n)
set_option maxHeartbeats 4000000 in
set_option maxRecDepth 100000 in
theorem xs_Net_countPieces_10 (l : Launch) (D : va_G) (a : Nat → Nat) (k3 : K3) {p : Program} {e : Env} {s : State} {m : MethodId} {below : List Frame} {meth : Method} {c : Code} {A : Nat → Prop} (av : Array Value) (F : Fx p s m meth c av cX2_countPieces 5 (some .int) yX2_countPieces.cls (kX2_countPieces :: tbG) D vwCl (ty3 k3) nestW A) (P : Int32 × S4) (K10 : S4 → Int32 → Int32 → (Int32 × S4)) (Q10 : S4 → Int32 → Int32 → Prop) (hK10 : ∀ (u : S4) (y1 : Int32) (y2 : Int32) (H : Heap) (locs : List Loc) (ls : Array Slot), Q10 u y1 y2 → K10 u y1 y2 = P → wd D vwCl (xC a k3) A s.heap u H locs → lv_has ls 5 [(0, .ref (a 1)), (1, .int y1), (2, .int y2)] → W p l e rm_xNet_countPieces s m av below meth c H locs 0 0 (QI below D vwCl (xC a k3) A av s P) (F0 m 10 ls [])) : ∀ (u : S4) (y1 : Int32) (y2 : Int32) (H : Heap) (locs : List Loc) (ls : Array Slot), xBq_Net_countPieces_10 Q10 u y1 y2 → xB_Net_countPieces_10 K10 u y1 y2 = P → wd D vwCl (xC a k3) A s.heap u H locs → lv_has ls 5 [(0, .ref (a 1)), (1, .int y1), (2, .int y2)] → W p l e rm_xNet_countPieces s m av below meth c H locs 0 0 (QI below D vwCl (xC a k3) A av s P) (F0 m 10 ls []) := by
  obtain ⟨hx, hb, hr, hml, hown, hts, hK, hN, hlocks, hA⟩ := id F
  have hown : s.vm.findClass RX2 = some m.cls := hown
  have htG : ∀ w ∈ tbG, w.before av s = true := fun w h => hts w (List.mem_cons_of_mem _ h)
  have f_12 := htG _ tb_113
  have f_36 := htG _ tb_122
  intro u y1 y2 H locs ls hq hP hw hl
  refine lv_iload_n hx hb dX2_countPieces_10 rfl (lv_at hl 2 rfl) ?_
  refine lv_aload_n hx hb dX2_countPieces_11 rfl (lv_at hl 0 rfl) ?_
  refine va_get (D := D) (ci := 2) (v := .ref (a 2)) (C := RX2) (T := TX2) (N := 5) hx hb htG in_2 hown hK hw.1 1 (xo_1 a k3 u) rfl 0 (by decide) f_12 (fun _ h9 => h9) rfl dX2_countPieces_12 ?_
  let r2 : Int32 := xp_Nodes_size u
  refine call_vir (rest := [.int y2]) ⟨hx, hb, hml, hown, htG⟩ nestW_ok hK hN hA (xc_Nodes_size l D a k3 u) (cwV 0 htG (tb_V tb_471 tb_472 tb_473 tb_22 tb_474) rfl rfl rfl (by decide +kernel) ⟨Nat.le_of_ble_eq_true rfl, Nat.le_of_ble_eq_true rfl⟩) (ci := 3) rfl (xo_2 a k3 u) rfl hw rfl hl.1 rfl (Nat.le_of_ble_eq_true rfl) dX2_countPieces_15 ⟨Nat.zero_le _, Nat.zero_le _⟩ (fun H locs (hw : wd D vwCl (xC a k3) A s.heap u H locs) => ?_)
  refine lv_icmp_ge (tgt := 34) hx hb dX2_countPieces_18 (by decide) (fun c3 => ?_) (fun c3 => ?_)
  · have hP := (if_pos c3).symm.trans hP
    have hq := hq.1 c3
    refine lv_iconst (v := 0) hx hb dX2_countPieces_34 (by decide) ?_
    refine lv_istore_n (lv' := [(2, .int (0 : Int32)), (0, .ref (a 1)), (1, .int y1)]) hx hb dX2_countPieces_35 rfl hl (by decide) rfl (fun ls hl => ?_)
    exact xw_Net_countPieces_36 l D a k3 av F P 64 u y1 (0 : Int32) H locs ls hq hP hw (lv_sub hl [1, 2, 0] rfl)
  · have hP := (if_neg c3).symm.trans hP
    have hq := hq.2 c3
    refine lv_aload_n hx hb dX2_countPieces_21 rfl (lv_at hl 0 rfl) ?_
    refine va_get (D := D) (ci := 2) (v := .ref (a 9)) (C := RX2) (T := TX2) (N := 5) hx hb htG in_2 hown hK hw.1 1 (xo_1 a k3 u) rfl 4 (by decide) f_36 (fun _ h9 => h9) rfl dX2_countPieces_22 ?_
    refine lv_iload_n hx hb dX2_countPieces_25 rfl (lv_at hl 2 rfl) ?_
    refine lv_iload_n hx hb dX2_countPieces_26 rfl (lv_at hl 2 rfl) ?_
    obtain ⟨h24, hq⟩ := hq
    let u25 : S4 := s4_wa u 0 y2 y2
    refine y_iast (t0 := 0) hx hb hK hw 0 (xo_9 a k3 u) (xq_9 a k3 u) rfl h24 dX2_countPieces_27 (fun H locs (hw : wd D vwCl (xC a k3) A s.heap u25 H locs) => ?_)
    let v26 : Int32 := (y2 + (1 : Int32))
    refine lv_iinc (v := v26) (lv' := [(2, .int v26), (0, .ref (a 1)), (1, .int y1)]) hx hb dX2_countPieces_28 hl (k := 2) rfl rfl (by decide) rfl (fun ls hl => ?_)
    refine lv_goto (tgt := 10) hx hb dX2_countPieces_31 (by decide) ?_
    exact hK10 u25 (y1) (v26) H locs ls hq hP hw (lv_sub hl [1, 2, 0] rfl)
set_option maxHeartbeats 4000000 in
set_option maxRecDepth 100000 in
theorem xw_Net_countPieces_10 (l : Launch) (D : va_G) (a : Nat → Nat) (k3 : K3) {p : Program} {e : Env} {s : State} {m : MethodId} {below : List Frame} {meth : Method} {c : Code} {A : Nat → Prop} (av : Array Value) (F : Fx p s m meth c av cX2_countPieces 5 (some .int) yX2_countPieces.cls (kX2_countPieces :: tbG) D vwCl (ty3 k3) nestW A) (P : Int32 × S4) : ∀ (n : Nat), ∀ (u : S4) (y1 : Int32) (y2 : Int32) (H : Heap) (locs : List Loc) (ls : Array Slot), xLq_Net_countPieces_10 n u y1 y2 → xL_Net_countPieces_10 n u y1 y2 = P → wd D vwCl (xC a k3) A s.heap u H locs → lv_has ls 5 [(0, .ref (a 1)), (1, .int y1), (2, .int y2)] → W p l e rm_xNet_countPieces s m av below meth c H locs 0 0 (QI below D vwCl (xC a k3) A av s P) (F0 m 10 ls []) := by
  intro n
  induction n with
  | zero => intro u y1 y2 H locs ls hq hP hw hl; exact hq.elim
  | succ n ih => intro u y1 y2 H locs ls hq hP hw hl; exact xs_Net_countPieces_10 l D a k3 av F P (xL_Net_countPieces_10 n) (xLq_Net_countPieces_10 n) ih u y1 y2 H locs ls hq hP hw hl
def xp_Net_countPieces (u : S4) : Int32 × S4 :=
  let r1 : Int32 := xp_Nodes_size u
  xL_Net_countPieces_10 64 u r1 (0 : Int32)
def xq_Net_countPieces (u : S4) : Prop :=
  let r1 : Int32 := xp_Nodes_size u
  xLq_Net_countPieces_10 64 u r1 (0 : Int32)
set_option maxHeartbeats 4000000 in
set_option maxRecDepth 100000 in
theorem xc_Net_countPieces (l : Launch) (D : va_G) (a : Nat → Nat) (k3 : K3) (u : S4) (hq : xq_Net_countPieces u) : MI l D vwCl (ty3 k3) nestW (xC a k3) yX2_countPieces (kX2_countPieces :: tbG) rm_xNet_countPieces [.ref (a 1)] u (xp_Net_countPieces u) := by
  refine mkI (cc := cX2_countPieces) (maxL := 5) (ret := (some .int)) (by decide) rfl (Nat.le_of_ble_eq_true rfl) ?_
  intro p e s m below meth c A ls F hw hl
  generalize hav : ([.ref (a 1)] : List Value).toArray = av at F ⊢
  have hl : lv_has ls 5 [(0, .ref (a 1))] := hl
  obtain ⟨hx, hb, hr, hml, hown, hts, hK, hN, hlocks, hA⟩ := id F
  have hown : s.vm.findClass RX2 = some m.cls := hown
  have htG : ∀ w ∈ tbG, w.before av s = true := fun w h => hts w (List.mem_cons_of_mem _ h)
  have f_12 := htG _ tb_113
  have hgo : ∀ P, xp_Net_countPieces u = P → ∀ (H : Heap) (locs : List Loc), wd D vwCl (xC a k3) A s.heap u H locs → W p l e rm_xNet_countPieces s m av below meth c H locs 0 0 (QI below D vwCl (xC a k3) A av s P) (F0 m 0 ls []) := by
    intro P hP H locs hw
    refine lv_aload_n hx hb dX2_countPieces_0 rfl (lv_at hl 0 rfl) ?_
    refine va_get (D := D) (ci := 2) (v := .ref (a 2)) (C := RX2) (T := TX2) (N := 5) hx hb htG in_2 hown hK hw.1 1 (xo_1 a k3 u) rfl 0 (by decide) f_12 (fun _ h9 => h9) rfl dX2_countPieces_1 ?_
    let r1 : Int32 := xp_Nodes_size u
    refine call_vir (rest := []) ⟨hx, hb, hml, hown, htG⟩ nestW_ok hK hN hA (xc_Nodes_size l D a k3 u) (cwV 0 htG (tb_V tb_471 tb_472 tb_473 tb_22 tb_474) rfl rfl rfl (by decide +kernel) ⟨Nat.le_of_ble_eq_true rfl, Nat.le_of_ble_eq_true rfl⟩) (ci := 3) rfl (xo_2 a k3 u) rfl hw rfl hl.1 rfl (Nat.le_of_ble_eq_true rfl) dX2_countPieces_4 ⟨Nat.zero_le _, Nat.zero_le _⟩ (fun H locs (hw : wd D vwCl (xC a k3) A s.heap u H locs) => ?_)
    refine lv_istore_n (lv' := [(1, .int r1), (0, .ref (a 1))]) hx hb dX2_countPieces_7 rfl hl (by decide) rfl (fun ls hl => ?_)
    refine lv_iconst (v := 0) hx hb dX2_countPieces_8 (by decide) ?_
    refine lv_istore_n (lv' := [(2, .int (0 : Int32)), (1, .int r1), (0, .ref (a 1))]) hx hb dX2_countPieces_9 rfl hl (by decide) rfl (fun ls hl => ?_)
    exact xw_Net_countPieces_10 l D a k3 av F P 64 u r1 (0 : Int32) H locs ls hq hP hw (lv_sub hl [2, 1, 0] rfl)
  exact hgo _ rfl s.heap [] hw
theorem dX7_pieces_0 : decode cX7_pieces 0 = .ok (.aload_n 0, 1) := by decide +kernel
theorem dX7_pieces_1 : decode cX7_pieces 1 = .ok (.getfield 12, 3) := by decide +kernel
theorem dX7_pieces_4 : decode cX7_pieces 4 = .ok (.invokevirtual 147, 3) := by decide +kernel
theorem dX7_pieces_7 : decode cX7_pieces 7 = .ok (.ireturn, 1) := by decide +kernel
abbrev rm_xO_pieces : Room := { frames := 3, cells := 0, slots := 0, locals := 67 }
def xp_O_pieces (u : S4) : Int32 × S4 :=
  let r2 : Int32 × S4 := xp_Net_countPieces u
  (r2.1, r2.2)
def xq_O_pieces (u : S4) : Prop :=
  xq_Net_countPieces u
set_option maxHeartbeats 4000000 in
set_option maxRecDepth 100000 in
theorem xc_O_pieces (l : Launch) (D : va_G) (a : Nat → Nat) (k3 : K3) (u : S4) (hq : xq_O_pieces u) : MI l D vwCl (ty3 k3) nestW (xC a k3) yX7_pieces (kX7_pieces :: tbG) rm_xO_pieces [.ref (a 0)] u (xp_O_pieces u) := by
  refine mkI (cc := cX7_pieces) (maxL := 1) (ret := (some .int)) (by decide) rfl (Nat.le_of_ble_eq_true rfl) ?_
  intro p e s m below meth c A ls F hw hl
  generalize hav : ([.ref (a 0)] : List Value).toArray = av at F ⊢
  have hl : lv_has ls 1 [(0, .ref (a 0))] := hl
  obtain ⟨hx, hb, hr, hml, hown, hts, hK, hN, hlocks, hA⟩ := id F
  have hown : s.vm.findClass RX7 = some m.cls := hown
  have htG : ∀ w ∈ tbG, w.before av s = true := fun w h => hts w (List.mem_cons_of_mem _ h)
  have f_12 := htG _ tb_188
  have hgo : ∀ P, xp_O_pieces u = P → ∀ (H : Heap) (locs : List Loc), wd D vwCl (xC a k3) A s.heap u H locs → W p l e rm_xO_pieces s m av below meth c H locs 0 0 (QI below D vwCl (xC a k3) A av s P) (F0 m 0 ls []) := by
    intro P hP H locs hw
    refine lv_aload_n hx hb dX7_pieces_0 rfl (lv_at hl 0 rfl) ?_
    refine va_get (D := D) (ci := 7) (v := .ref (a 1)) (C := RX7) (T := TX7) (N := 4) hx hb htG in_7 hown hK hw.1 0 (xo_0 a k3 u) rfl 0 (by decide) f_12 (fun _ h9 => h9) rfl dX7_pieces_1 ?_
    have h1 := hq
    let r2 : Int32 × S4 := xp_Net_countPieces u
    refine call_vi (rest := []) ⟨hx, hb, hml, hown, htG⟩ nestW_ok hK hN hA (xc_Net_countPieces l D a k3 u h1) (cwV 0 htG (tb_V tb_467 tb_468 tb_469 tb_21 tb_470) rfl rfl rfl (by decide +kernel) ⟨Nat.le_of_ble_eq_true rfl, Nat.le_of_ble_eq_true rfl⟩) (ci := 2) rfl (xo_1 a k3 u) rfl hw rfl hl.1 rfl (Nat.le_of_ble_eq_true rfl) dX7_pieces_4 ⟨Nat.zero_le _, Nat.zero_le _⟩ (fun H locs (hw : wd D vwCl (xC a k3) A s.heap r2.2 H locs) => ?_)
    exact ret_i hx hb hr hlocks hw dX7_pieces_7 hP
  exact hgo _ rfl s.heap [] hw
