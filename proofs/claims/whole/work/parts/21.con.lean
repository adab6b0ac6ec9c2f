theorem dX8_plain_0 : decode cX8_plain 0 = .ok (.aload_n 0, 1) := by decide +kernel
theorem dX8_plain_1 : decode cX8_plain 1 = .ok (.iload_n 1, 1) := by decide +kernel
theorem dX8_plain_2 : decode cX8_plain 2 = .ok (.invokevirtual 88, 3) := by decide +kernel
theorem dX8_plain_5 : decode cX8_plain 5 = .ok (.ifCond .eq 11, 3) := by decide +kernel
theorem dX8_plain_8 : decode cX8_plain 8 = .ok (.aload_n 0, 1) := by decide +kernel
theorem dX8_plain_9 : decode cX8_plain 9 = .ok (.iload_n 2, 1) := by decide +kernel
theorem dX8_plain_10 : decode cX8_plain 10 = .ok (.invokevirtual 88, 3) := by decide +kernel
theorem dX8_plain_13 : decode cX8_plain 13 = .ok (.ifCond .ne 5, 3) := by decide +kernel
theorem dX8_plain_16 : decode cX8_plain 16 = .ok (.iconst (-1), 1) := by decide +kernel
theorem dX8_plain_17 : decode cX8_plain 17 = .ok (.ireturn, 1) := by decide +kernel
theorem dX8_plain_18 : decode cX8_plain 18 = .ok (.iconst 0, 1) := by decide +kernel
theorem dX8_plain_19 : decode cX8_plain 19 = .ok (.istore_n 3, 1) := by decide +kernel
theorem dX8_plain_20 : decode cX8_plain 20 = .ok (.iload_n 3, 1) := by decide +kernel
theorem dX8_plain_21 : decode cX8_plain 21 = .ok (.bipush 24, 2) := by decide +kernel
theorem dX8_plain_23 : decode cX8_plain 23 = .ok (.if_icmp .ge 16, 3) := by decide +kernel
theorem dX8_plain_26 : decode cX8_plain 26 = .ok (.aload_n 0, 1) := by decide +kernel
theorem dX8_plain_27 : decode cX8_plain 27 = .ok (.getfield 76, 3) := by decide +kernel
theorem dX8_plain_30 : decode cX8_plain 30 = .ok (.iload_n 3, 1) := by decide +kernel
theorem dX8_plain_31 : decode cX8_plain 31 = .ok (.iconst (-1), 1) := by decide +kernel
theorem dX8_plain_32 : decode cX8_plain 32 = .ok (.iastore, 1) := by decide +kernel
theorem dX8_plain_33 : decode cX8_plain 33 = .ok (.iinc 3 1, 3) := by decide +kernel
theorem dX8_plain_36 : decode cX8_plain 36 = .ok (.goto (-16), 3) := by decide +kernel
theorem dX8_plain_39 : decode cX8_plain 39 = .ok (.aload_n 0, 1) := by decide +kernel
theorem dX8_plain_40 : decode cX8_plain 40 = .ok (.getfield 76, 3) := by decide +kernel
theorem dX8_plain_43 : decode cX8_plain 43 = .ok (.iconst 2, 1) := by decide +kernel
theorem dX8_plain_44 : decode cX8_plain 44 = .ok (.iload_n 1, 1) := by decide +kernel
theorem dX8_plain_45 : decode cX8_plain 45 = .ok (.imul, 1) := by decide +kernel
theorem dX8_plain_46 : decode cX8_plain 46 = .ok (.iconst 0, 1) := by decide +kernel
theorem dX8_plain_47 : decode cX8_plain 47 = .ok (.iastore, 1) := by decide +kernel
theorem dX8_plain_48 : decode cX8_plain 48 = .ok (.iconst 0, 1) := by decide +kernel
theorem dX8_plain_49 : decode cX8_plain 49 = .ok (.istore_n 3, 1) := by decide +kernel
theorem dX8_plain_50 : decode cX8_plain 50 = .ok (.iload_n 3, 1) := by decide +kernel
theorem dX8_plain_51 : decode cX8_plain 51 = .ok (.bipush 24, 2) := by decide +kernel
theorem dX8_plain_53 : decode cX8_plain 53 = .ok (.if_icmp .ge 91, 3) := by decide +kernel
theorem dX8_plain_56 : decode cX8_plain 56 = .ok (.iconst 0, 1) := by decide +kernel
theorem dX8_plain_57 : decode cX8_plain 57 = .ok (.istore 4, 2) := by decide +kernel
theorem dX8_plain_59 : decode cX8_plain 59 = .ok (.iload 4, 2) := by decide +kernel
theorem dX8_plain_61 : decode cX8_plain 61 = .ok (.iconst 2, 1) := by decide +kernel
theorem dX8_plain_62 : decode cX8_plain 62 = .ok (.aload_n 0, 1) := by decide +kernel
theorem dX8_plain_63 : decode cX8_plain 63 = .ok (.getfield 85, 3) := by decide +kernel
theorem dX8_plain_66 : decode cX8_plain 66 = .ok (.imul, 1) := by decide +kernel
theorem dX8_plain_67 : decode cX8_plain 67 = .ok (.if_icmp .ge 71, 3) := by decide +kernel
theorem dX8_plain_70 : decode cX8_plain 70 = .ok (.iconst 0, 1) := by decide +kernel
theorem dX8_plain_71 : decode cX8_plain 71 = .ok (.istore 5, 2) := by decide +kernel
theorem dX8_plain_73 : decode cX8_plain 73 = .ok (.iload 5, 2) := by decide +kernel
theorem dX8_plain_75 : decode cX8_plain 75 = .ok (.iconst 2, 1) := by decide +kernel
theorem dX8_plain_76 : decode cX8_plain 76 = .ok (.aload_n 0, 1) := by decide +kernel
theorem dX8_plain_77 : decode cX8_plain 77 = .ok (.getfield 85, 3) := by decide +kernel
theorem dX8_plain_80 : decode cX8_plain 80 = .ok (.imul, 1) := by decide +kernel
theorem dX8_plain_81 : decode cX8_plain 81 = .ok (.if_icmp .ge 51, 3) := by decide +kernel
theorem dX8_plain_84 : decode cX8_plain 84 = .ok (.aload_n 0, 1) := by decide +kernel
theorem dX8_plain_85 : decode cX8_plain 85 = .ok (.getfield 76, 3) := by decide +kernel
theorem dX8_plain_88 : decode cX8_plain 88 = .ok (.iload 4, 2) := by decide +kernel
theorem dX8_plain_90 : decode cX8_plain 90 = .ok (.iaload, 1) := by decide +kernel
theorem dX8_plain_91 : decode cX8_plain 91 = .ok (.iload_n 3, 1) := by decide +kernel
theorem dX8_plain_92 : decode cX8_plain 92 = .ok (.if_icmp .ne 34, 3) := by decide +kernel
theorem dX8_plain_95 : decode cX8_plain 95 = .ok (.aload_n 0, 1) := by decide +kernel
theorem dX8_plain_96 : decode cX8_plain 96 = .ok (.getfield 76, 3) := by decide +kernel
theorem dX8_plain_99 : decode cX8_plain 99 = .ok (.iload 5, 2) := by decide +kernel
theorem dX8_plain_101 : decode cX8_plain 101 = .ok (.iaload, 1) := by decide +kernel
theorem dX8_plain_102 : decode cX8_plain 102 = .ok (.ifCond .ge 24, 3) := by decide +kernel
theorem dX8_plain_105 : decode cX8_plain 105 = .ok (.aload_n 0, 1) := by decide +kernel
theorem dX8_plain_106 : decode cX8_plain 106 = .ok (.iload 4, 2) := by decide +kernel
theorem dX8_plain_108 : decode cX8_plain 108 = .ok (.iload 5, 2) := by decide +kernel
theorem dX8_plain_110 : decode cX8_plain 110 = .ok (.invokevirtual 130, 3) := by decide +kernel
theorem dX8_plain_113 : decode cX8_plain 113 = .ok (.ifCond .eq 13, 3) := by decide +kernel
theorem dX8_plain_116 : decode cX8_plain 116 = .ok (.aload_n 0, 1) := by decide +kernel
theorem dX8_plain_117 : decode cX8_plain 117 = .ok (.getfield 76, 3) := by decide +kernel
theorem dX8_plain_120 : decode cX8_plain 120 = .ok (.iload 5, 2) := by decide +kernel
theorem dX8_plain_122 : decode cX8_plain 122 = .ok (.iload_n 3, 1) := by decide +kernel
theorem dX8_plain_123 : decode cX8_plain 123 = .ok (.iconst 1, 1) := by decide +kernel
theorem dX8_plain_124 : decode cX8_plain 124 = .ok (.iadd, 1) := by decide +kernel
theorem dX8_plain_125 : decode cX8_plain 125 = .ok (.iastore, 1) := by decide +kernel
theorem dX8_plain_126 : decode cX8_plain 126 = .ok (.iinc 5 1, 3) := by decide +kernel
theorem dX8_plain_129 : decode cX8_plain 129 = .ok (.goto (-56), 3) := by decide +kernel
theorem dX8_plain_132 : decode cX8_plain 132 = .ok (.iinc 4 1, 3) := by decide +kernel
theorem dX8_plain_135 : decode cX8_plain 135 = .ok (.goto (-76), 3) := by decide +kernel
theorem dX8_plain_138 : decode cX8_plain 138 = .ok (.iinc 3 1, 3) := by decide +kernel
theorem dX8_plain_141 : decode cX8_plain 141 = .ok (.goto (-91), 3) := by decide +kernel
theorem dX8_plain_144 : decode cX8_plain 144 = .ok (.aload_n 0, 1) := by decide +kernel
theorem dX8_plain_145 : decode cX8_plain 145 = .ok (.getfield 76, 3) := by decide +kernel
theorem dX8_plain_148 : decode cX8_plain 148 = .ok (.iconst 2, 1) := by decide +kernel
theorem dX8_plain_149 : decode cX8_plain 149 = .ok (.iload_n 2, 1) := by decide +kernel
theorem dX8_plain_150 : decode cX8_plain 150 = .ok (.imul, 1) := by decide +kernel
theorem dX8_plain_151 : decode cX8_plain 151 = .ok (.iaload, 1) := by decide +kernel
theorem dX8_plain_152 : decode cX8_plain 152 = .ok (.ireturn, 1) := by decide +kernel
abbrev rm_mM_plain : Room := { frames := 2, cells := 0, slots := 0, locals := 45 }
def mB_M_plain_73 (K50 : S4 → Int32 → Int32 → (Int32 × S4)) (K59 : S4 → Int32 → Int32 → Int32 → (Int32 × S4)) (K73 : S4 → Int32 → Int32 → Int32 → Int32 → (Int32 × S4)) (u : S4) (y2 : Int32) (y3 : Int32) (y4 : Int32) (y5 : Int32) : Int32 × S4 :=
  if ((2 : Int32) * (s4_i u 1)) ≤ y5 then
    let v13 : Int32 := (y4 + (1 : Int32))
    K59 u y2 y3 v13
  else
    if (s4_ra u 18 y4) = y3 then
      if (0 : Int32) ≤ (s4_ra u 18 y5) then
        let v19 : Int32 := (y5 + (1 : Int32))
        K73 u y2 y3 y4 v19
      else
        let r21 : Int32 := mp_M_goesInto u y4 y5
        if r21 = (0 : Int32) then
          let v23 : Int32 := (y5 + (1 : Int32))
          K73 u y2 y3 y4 v23
        else
          let u25 : S4 := s4_wa u 18 y5 (y3 + (1 : Int32))
          let v26 : Int32 := (y5 + (1 : Int32))
          K73 u25 y2 y3 y4 v26
    else
      let v16 : Int32 := (y5 + (1 : Int32))
      K73 u y2 y3 y4 v16
def mL_M_plain_73 (K50 : S4 → Int32 → Int32 → (Int32 × S4)) (K59 : S4 → Int32 → Int32 → Int32 → (Int32 × S4)) : Nat → S4 → Int32 → Int32 → Int32 → Int32 → (Int32 × S4)
  | 0 => fun u _ _ _ _ => (0, u)
  | n + 1 => mB_M_plain_73 K50 K59 (mL_M_plain_73 K50 K59 n)
def mBq_M_plain_73 (Q50 : S4 → Int32 → Int32 → Prop) (Q59 : S4 → Int32 → Int32 → Int32 → Prop) (Q73 : S4 → Int32 → Int32 → Int32 → Int32 → Prop) (u : S4) (y2 : Int32) (y3 : Int32) (y4 : Int32) (y5 : Int32) : Prop :=
  ((((2 : Int32) * (s4_i u 1)) ≤ y5 →
    let v13 : Int32 := (y4 + (1 : Int32))
    Q59 u y2 y3 v13) ∧ (¬ ((2 : Int32) * (s4_i u 1)) ≤ y5 →
    vp_in y4 24 ∧
    (((s4_ra u 18 y4) = y3 →
      vp_in y5 24 ∧
      (((0 : Int32) ≤ (s4_ra u 18 y5) →
        let v19 : Int32 := (y5 + (1 : Int32))
        Q73 u y2 y3 y4 v19) ∧ (¬ (0 : Int32) ≤ (s4_ra u 18 y5) →
        mq_M_goesInto u y4 y5 ∧
        let r21 : Int32 := mp_M_goesInto u y4 y5
        ((r21 = (0 : Int32) →
          let v23 : Int32 := (y5 + (1 : Int32))
          Q73 u y2 y3 y4 v23) ∧ (¬ r21 = (0 : Int32) →
          vp_in y5 24 ∧
          let u25 : S4 := s4_wa u 18 y5 (y3 + (1 : Int32))
          let v26 : Int32 := (y5 + (1 : Int32))
          Q73 u25 y2 y3 y4 v26))))) ∧ (¬ (s4_ra u 18 y4) = y3 →
      let v16 : Int32 := (y5 + (1 : Int32))
      Q73 u y2 y3 y4 v16))))
def mLq_M_plain_73 (Q50 : S4 → Int32 → Int32 → Prop) (Q59 : S4 → Int32 → Int32 → Int32 → Prop) : Nat → S4 → Int32 → Int32 → Int32 → Int32 → Prop
  | 0 => fun _ _ _ _ _ => False
  | n + 1 => mBq_M_plain_73 Q50 Q59 (mLq_M_plain_73 Q50 Q59 n)
set_option maxHeartbeats 4000000 in
set_option maxRecDepth 100000 in
theorem ms_M_plain_73 (l : Launch) (D : va_G) (a : Nat → Nat) (k3 : K3) {p : Program} {e : Env} {s : State} {m : MethodId} {below : List Frame} {meth : Method} {c : Code} {A : Nat → Prop} (av : Array Value) (F : Fx p s m meth c av cX8_plain 6 (some .int) yX8_plain.cls (kX8_plain :: tbG) D vwCl (ty3 k3) nestW A) (P : Int32 × S4) (K50 : S4 → Int32 → Int32 → (Int32 × S4)) (Q50 : S4 → Int32 → Int32 → Prop) (hK50 : ∀ (u : S4) (y2 : Int32) (y3 : Int32) (H : Heap) (locs : List Loc) (ls : Array Slot), Q50 u y2 y3 → K50 u y2 y3 = P → wd D vwCl (mC a k3) A s.heap u H locs → lv_has ls 6 [(0, .ref (a 0)), (2, .int y2), (3, .int y3)] → W p l e rm_mM_plain s m av below meth c H locs 0 0 (QI below D vwCl (mC a k3) A av s P) (F0 m 50 ls [])) (K59 : S4 → Int32 → Int32 → Int32 → (Int32 × S4)) (Q59 : S4 → Int32 → Int32 → Int32 → Prop) (hK59 : ∀ (u : S4) (y2 : Int32) (y3 : Int32) (y4 : Int32) (H : Heap) (locs : List Loc) (ls : Array Slot), Q59 u y2 y3 y4 → K59 u y2 y3 y4 = P → wd D vwCl (mC a k3) A s.heap u H locs → lv_has ls 6 [(0, .ref (a 0)), (2, .int y2), (3, .int y3), (4, .int y4)] → W p l e rm_mM_plain s m av below meth c H locs 0 0 (QI below D vwCl (mC a k3) A av s P) (F0 m 59 ls [])) (K73 : S4 → Int32 → Int32 → Int32 → Int32 → (Int32 × S4)) (Q73 : S4 → Int32 → Int32 → Int32 → Int32 → Prop) (hK73 : ∀ (u : S4) (y2 : Int32) (y3 : Int32) (y4 : Int32) (y5 : Int32) (H : Heap) (locs : List Loc) (ls : Array Slot), Q73 u y2 y3 y4 y5 → K73 u y2 y3 y4 y5 = P → wd D vwCl (mC a k3) A s.heap u H locs → lv_has ls 6 [(0, .ref (a 0)), (2, .int y2), (3, .int y3), (4, .int y4), (5, .int y5)] → W p l e rm_mM_plain s m av below meth c H locs 0 0 (QI below D vwCl (mC a k3) A av s P) (F0 m 73 ls [])) : ∀ (u : S4) (y2 : Int32) (y3 : Int32) (y4 : Int32) (y5 : Int32) (H : Heap) (locs : List Loc) (ls : Array Slot), mBq_M_plain_73 Q50 Q59 Q73 u y2 y3 y4 y5 → mB_M_plain_73 K50 K59 K73 u y2 y3 y4 y5 = P → wd D vwCl (mC a k3) A s.heap u H locs → lv_has ls 6 [(0, .ref (a 0)), (2, .int y2), (3, .int y3), (4, .int y4), (5, .int y5)] → W p l e rm_mM_plain s m av below meth c H locs 0 0 (QI below D vwCl (mC a k3) A av s P) (F0 m 73 ls []) := by
  obtain ⟨hx, hb, hr, hml, hown, hts, hK, hN, hlocks, hA⟩ := id F
  have hown : s.vm.findClass RX8 = some m.cls := hown
  have htG : ∀ w ∈ tbG, w.before av s = true := fun w h => hts w (List.mem_cons_of_mem _ h)
  have f_85 := htG _ tb_518
  have f_76 := htG _ tb_540
  intro u y2 y3 y4 y5 H locs ls hq hP hw hl
  refine lv_iload hx hb dX8_plain_73 (lv_at hl 4 rfl) ?_
  refine lv_iconst (v := 2) hx hb dX8_plain_75 (by decide) ?_
  refine lv_aload_n hx hb dX8_plain_76 rfl (lv_at hl 0 rfl) ?_
  refine va_get (D := D) (ci := 8) (v := .int (s4_i u 1)) (C := RX8) (T := TX8) (N := 28) hx hb htG in_8 hown hK hw.1 0 (mo_0 a k3 u) rfl 4 (by decide) f_85 (fun _ h9 => h9) rfl dX8_plain_77 ?_
  refine lv_imul hx hb dX8_plain_80 ?_
  refine lv_icmp_ge (tgt := 132) hx hb dX8_plain_81 (by decide) (fun c12 => ?_) (fun c12 => ?_)
  · have hP := (if_pos c12).symm.trans hP
    have hq := hq.1 c12
    let v13 : Int32 := (y4 + (1 : Int32))
    refine lv_iinc (v := v13) (lv' := [(4, .int v13), (0, .ref (a 0)), (2, .int y2), (3, .int y3), (5, .int y5)]) hx hb dX8_plain_132 hl (k := 3) rfl rfl (by decide) rfl (fun ls hl => ?_)
    refine lv_goto (tgt := 59) hx hb dX8_plain_135 (by decide) ?_
    exact hK59 u (y2) (y3) (v13) H locs ls hq hP hw (lv_sub hl [1, 2, 3, 0] rfl)
  · have hP := (if_neg c12).symm.trans hP
    have hq := hq.2 c12
    refine lv_aload_n hx hb dX8_plain_84 rfl (lv_at hl 0 rfl) ?_
    refine va_get (D := D) (ci := 8) (v := .ref (a 21)) (C := RX8) (T := TX8) (N := 28) hx hb htG in_8 hown hK hw.1 0 (mo_0 a k3 u) rfl 26 (by decide) f_76 (fun _ h9 => h9) rfl dX8_plain_85 ?_
    refine lv_iload hx hb dX8_plain_88 (lv_at hl 3 rfl) ?_
    obtain ⟨h14, hq⟩ := hq
    refine y_iald (t0 := 0) hx hb hK hw 18 (mo_21 a k3 u) rfl h14 dX8_plain_90 ?_
    refine lv_iload_n hx hb dX8_plain_91 rfl (lv_at hl 2 rfl) ?_
    refine lv_icmp_ne (tgt := 126) hx hb dX8_plain_92 (by decide) (fun c15 => ?_) (fun c15 => ?_)
    · have hP := (if_neg c15).symm.trans hP
      have hq := hq.2 c15
      let v16 : Int32 := (y5 + (1 : Int32))
      refine lv_iinc (v := v16) (lv' := [(5, .int v16), (0, .ref (a 0)), (2, .int y2), (3, .int y3), (4, .int y4)]) hx hb dX8_plain_126 hl (k := 4) rfl rfl (by decide) rfl (fun ls hl => ?_)
      refine lv_goto (tgt := 73) hx hb dX8_plain_129 (by decide) ?_
      exact hK73 u (y2) (y3) (y4) (v16) H locs ls hq hP hw (lv_sub hl [1, 2, 3, 4, 0] rfl)
    · have hP := (if_pos c15).symm.trans hP
      have hq := hq.1 c15
      refine lv_aload_n hx hb dX8_plain_95 rfl (lv_at hl 0 rfl) ?_
      refine va_get (D := D) (ci := 8) (v := .ref (a 21)) (C := RX8) (T := TX8) (N := 28) hx hb htG in_8 hown hK hw.1 0 (mo_0 a k3 u) rfl 26 (by decide) f_76 (fun _ h9 => h9) rfl dX8_plain_96 ?_
      refine lv_iload hx hb dX8_plain_99 (lv_at hl 4 rfl) ?_
      obtain ⟨h17, hq⟩ := hq
      refine y_iald (t0 := 0) hx hb hK hw 18 (mo_21 a k3 u) rfl h17 dX8_plain_101 ?_
      refine lv_if_ge (tgt := 126) hx hb dX8_plain_102 (by decide) (fun c18 => ?_) (fun c18 => ?_)
      · have hP := (if_pos c18).symm.trans hP
        have hq := hq.1 c18
        let v19 : Int32 := (y5 + (1 : Int32))
        refine lv_iinc (v := v19) (lv' := [(5, .int v19), (0, .ref (a 0)), (2, .int y2), (3, .int y3), (4, .int y4)]) hx hb dX8_plain_126 hl (k := 4) rfl rfl (by decide) rfl (fun ls hl => ?_)
        refine lv_goto (tgt := 73) hx hb dX8_plain_129 (by decide) ?_
        exact hK73 u (y2) (y3) (y4) (v19) H locs ls hq hP hw (lv_sub hl [1, 2, 3, 4, 0] rfl)
      · have hP := (if_neg c18).symm.trans hP
        have hq := hq.2 c18
        refine lv_aload_n hx hb dX8_plain_105 rfl (lv_at hl 0 rfl) ?_
        refine lv_iload hx hb dX8_plain_106 (lv_at hl 3 rfl) ?_
        refine lv_iload hx hb dX8_plain_108 (lv_at hl 4 rfl) ?_
        obtain ⟨h20, hq⟩ := hq
        let r21 : Int32 := mp_M_goesInto u y4 y5
        refine call_vir (rest := []) ⟨hx, hb, hml, hown, htG⟩ nestW_ok hK hN hA (mc_M_goesInto l D a k3 u y4 y5 h20) (cwV 2 htG (tb_V tb_659 tb_661 tb_13 tb_28 tb_662) rfl rfl rfl (by decide +kernel) ⟨Nat.le_of_ble_eq_true rfl, Nat.le_of_ble_eq_true rfl⟩) (ci := 8) rfl (mo_0 a k3 u) rfl hw rfl hl.1 rfl (Nat.le_of_ble_eq_true rfl) dX8_plain_110 ⟨Nat.zero_le _, Nat.zero_le _⟩ (fun H locs (hw : wd D vwCl (mC a k3) A s.heap u H locs) => ?_)
        refine lv_if_eq (tgt := 126) hx hb dX8_plain_113 (by decide) (fun c22 => ?_) (fun c22 => ?_)
        · have hP := (if_pos c22).symm.trans hP
          have hq := hq.1 c22
          let v23 : Int32 := (y5 + (1 : Int32))
          refine lv_iinc (v := v23) (lv' := [(5, .int v23), (0, .ref (a 0)), (2, .int y2), (3, .int y3), (4, .int y4)]) hx hb dX8_plain_126 hl (k := 4) rfl rfl (by decide) rfl (fun ls hl => ?_)
          refine lv_goto (tgt := 73) hx hb dX8_plain_129 (by decide) ?_
          exact hK73 u (y2) (y3) (y4) (v23) H locs ls hq hP hw (lv_sub hl [1, 2, 3, 4, 0] rfl)
        · have hP := (if_neg c22).symm.trans hP
          have hq := hq.2 c22
          refine lv_aload_n hx hb dX8_plain_116 rfl (lv_at hl 0 rfl) ?_
          refine va_get (D := D) (ci := 8) (v := .ref (a 21)) (C := RX8) (T := TX8) (N := 28) hx hb htG in_8 hown hK hw.1 0 (mo_0 a k3 u) rfl 26 (by decide) f_76 (fun _ h9 => h9) rfl dX8_plain_117 ?_
          refine lv_iload hx hb dX8_plain_120 (lv_at hl 4 rfl) ?_
          refine lv_iload_n hx hb dX8_plain_122 rfl (lv_at hl 2 rfl) ?_
          refine lv_iconst (v := 1) hx hb dX8_plain_123 (by decide) ?_
          refine lv_iadd hx hb dX8_plain_124 ?_
          obtain ⟨h24, hq⟩ := hq
          let u25 : S4 := s4_wa u 18 y5 (y3 + (1 : Int32))
          refine y_iast (t0 := 0) hx hb hK hw 18 (mo_21 a k3 u) (mq_21 a k3 u) rfl h24 dX8_plain_125 (fun H locs (hw : wd D vwCl (mC a k3) A s.heap u25 H locs) => ?_)
          let v26 : Int32 := (y5 + (1 : Int32))
          refine lv_iinc (v := v26) (lv' := [(5, .int v26), (0, .ref (a 0)), (2, .int y2), (3, .int y3), (4, .int y4)]) hx hb dX8_plain_126 hl (k := 4) rfl rfl (by decide) rfl (fun ls hl => ?_)
          refine lv_goto (tgt := 73) hx hb dX8_plain_129 (by decide) ?_
          exact hK73 u25 (y2) (y3) (y4) (v26) H locs ls hq hP hw (lv_sub hl [1, 2, 3, 4, 0] rfl)
set_option maxHeartbeats 4000000 in
set_option maxRecDepth 100000 in
theorem mw_M_plain_73 (l : Launch) (D : va_G) (a : Nat → Nat) (k3 : K3) {p : Program} {e : Env} {s : State} {m : MethodId} {below : List Frame} {meth : Method} {c : Code} {A : Nat → Prop} (av : Array Value) (F : Fx p s m meth c av cX8_plain 6 (some .int) yX8_plain.cls (kX8_plain :: tbG) D vwCl (ty3 k3) nestW A) (P : Int32 × S4) (K50 : S4 → Int32 → Int32 → (Int32 × S4)) (Q50 : S4 → Int32 → Int32 → Prop) (hK50 : ∀ (u : S4) (y2 : Int32) (y3 : Int32) (H : Heap) (locs : List Loc) (ls : Array Slot), Q50 u y2 y3 → K50 u y2 y3 = P → wd D vwCl (mC a k3) A s.heap u H locs → lv_has ls 6 [(0, .ref (a 0)), (2, .int y2), (3, .int y3)] → W p l e rm_mM_plain s m av below meth c H locs 0 0 (QI below D vwCl (mC a k3) A av s P) (F0 m 50 ls [])) (K59 : S4 → Int32 → Int32 → Int32 → (Int32 × S4)) (Q59 : S4 → Int32 → Int32 → Int32 → Prop) (hK59 : ∀ (u : S4) (y2 : Int32) (y3 : Int32) (y4 : Int32) (H : Heap) (locs : List Loc) (ls : Array Slot), Q59 u y2 y3 y4 → K59 u y2 y3 y4 = P → wd D vwCl (mC a k3) A s.heap u H locs → lv_has ls 6 [(0, .ref (a 0)), (2, .int y2), (3, .int y3), (4, .int y4)] → W p l e rm_mM_plain s m av below meth c H locs 0 0 (QI below D vwCl (mC a k3) A av s P) (F0 m 59 ls [])) : ∀ (n : Nat), ∀ (u : S4) (y2 : Int32) (y3 : Int32) (y4 : Int32) (y5 : Int32) (H : Heap) (locs : List Loc) (ls : Array Slot), mLq_M_plain_73 Q50 Q59 n u y2 y3 y4 y5 → mL_M_plain_73 K50 K59 n u y2 y3 y4 y5 = P → wd D vwCl (mC a k3) A s.heap u H locs → lv_has ls 6 [(0, .ref (a 0)), (2, .int y2), (3, .int y3), (4, .int y4), (5, .int y5)] → W p l e rm_mM_plain s m av below meth c H locs 0 0 (QI below D vwCl (mC a k3) A av s P) (F0 m 73 ls []) := by
  intro n
  induction n with
  | zero => intro u y2 y3 y4 y5 H locs ls hq hP hw hl; exact hq.elim
  | succ n ih => intro u y2 y3 y4 y5 H locs ls hq hP hw hl; exact ms_M_plain_73 l D a k3 av F P K50 Q50 hK50 K59 Q59 hK59 (mL_M_plain_73 K50 K59 n) (mLq_M_plain_73 Q50 Q59 n) ih u y2 y3 y4 y5 H locs ls hq hP hw hl
def mB_M_plain_59 (K50 : S4 → Int32 → Int32 → (Int32 × S4)) (K59 : S4 → Int32 → Int32 → Int32 → (Int32 × S4)) (u : S4) (y2 : Int32) (y3 : Int32) (y4 : Int32) : Int32 × S4 :=
  if ((2 : Int32) * (s4_i u 1)) ≤ y4 then
    let v11 : Int32 := (y3 + (1 : Int32))
    K50 u y2 v11
  else
    mL_M_plain_73 K50 K59 64 u y2 y3 y4 (0 : Int32)
def mL_M_plain_59 (K50 : S4 → Int32 → Int32 → (Int32 × S4)) : Nat → S4 → Int32 → Int32 → Int32 → (Int32 × S4)
  | 0 => fun u _ _ _ => (0, u)
  | n + 1 => mB_M_plain_59 K50 (mL_M_plain_59 K50 n)
def mBq_M_plain_59 (Q50 : S4 → Int32 → Int32 → Prop) (Q59 : S4 → Int32 → Int32 → Int32 → Prop) (u : S4) (y2 : Int32) (y3 : Int32) (y4 : Int32) : Prop :=
  ((((2 : Int32) * (s4_i u 1)) ≤ y4 →
    let v11 : Int32 := (y3 + (1 : Int32))
    Q50 u y2 v11) ∧ (¬ ((2 : Int32) * (s4_i u 1)) ≤ y4 →
    mLq_M_plain_73 Q50 Q59 64 u y2 y3 y4 (0 : Int32)))
def mLq_M_plain_59 (Q50 : S4 → Int32 → Int32 → Prop) : Nat → S4 → Int32 → Int32 → Int32 → Prop
  | 0 => fun _ _ _ _ => False
  | n + 1 => mBq_M_plain_59 Q50 (mLq_M_plain_59 Q50 n)
set_option maxHeartbeats 4000000 in
set_option maxRecDepth 100000 in
theorem ms_M_plain_59 (l : Launch) (D : va_G) (a : Nat → Nat) (k3 : K3) {p : Program} {e : Env} {s : State} {m : MethodId} {below : List Frame} {meth : Method} {c : Code} {A : Nat → Prop} (av : Array Value) (F : Fx p s m meth c av cX8_plain 6 (some .int) yX8_plain.cls (kX8_plain :: tbG) D vwCl (ty3 k3) nestW A) (P : Int32 × S4) (K50 : S4 → Int32 → Int32 → (Int32 × S4)) (Q50 : S4 → Int32 → Int32 → Prop) (hK50 : ∀ (u : S4) (y2 : Int32) (y3 : Int32) (H : Heap) (locs : List Loc) (ls : Array Slot), Q50 u y2 y3 → K50 u y2 y3 = P → wd D vwCl (mC a k3) A s.heap u H locs → lv_has ls 6 [(0, .ref (a 0)), (2, .int y2), (3, .int y3)] → W p l e rm_mM_plain s m av below meth c H locs 0 0 (QI below D vwCl (mC a k3) A av s P) (F0 m 50 ls [])) (K59 : S4 → Int32 → Int32 → Int32 → (Int32 × S4)) (Q59 : S4 → Int32 → Int32 → Int32 → Prop) (hK59 : ∀ (u : S4) (y2 : Int32) (y3 : Int32) (y4 : Int32) (H : Heap) (locs : List Loc) (ls : Array Slot), Q59 u y2 y3 y4 → K59 u y2 y3 y4 = P → wd D vwCl (mC a k3) A s.heap u H locs → lv_has ls 6 [(0, .ref (a 0)), (2, .int y2), (3, .int y3), (4, .int y4)] → W p l e rm_mM_plain s m av below meth c H locs 0 0 (QI below D vwCl (mC a k3) A av s P) (F0 m 59 ls [])) : ∀ (u : S4) (y2 : Int32) (y3 : Int32) (y4 : Int32) (H : Heap) (locs : List Loc) (ls : Array Slot), mBq_M_plain_59 Q50 Q59 u y2 y3 y4 → mB_M_plain_59 K50 K59 u y2 y3 y4 = P → wd D vwCl (mC a k3) A s.heap u H locs → lv_has ls 6 [(0, .ref (a 0)), (2, .int y2), (3, .int y3), (4, .int y4)] → W p l e rm_mM_plain s m av below meth c H locs 0 0 (QI below D vwCl (mC a k3) A av s P) (F0 m 59 ls []) := by
  obtain ⟨hx, hb, hr, hml, hown, hts, hK, hN, hlocks, hA⟩ := id F
  have hown : s.vm.findClass RX8 = some m.cls := hown
  have htG : ∀ w ∈ tbG, w.before av s = true := fun w h => hts w (List.mem_cons_of_mem _ h)
  have f_85 := htG _ tb_518
  intro u y2 y3 y4 H locs ls hq hP hw hl
  refine lv_iload hx hb dX8_plain_59 (lv_at hl 3 rfl) ?_
  refine lv_iconst (v := 2) hx hb dX8_plain_61 (by decide) ?_
  refine lv_aload_n hx hb dX8_plain_62 rfl (lv_at hl 0 rfl) ?_
  refine va_get (D := D) (ci := 8) (v := .int (s4_i u 1)) (C := RX8) (T := TX8) (N := 28) hx hb htG in_8 hown hK hw.1 0 (mo_0 a k3 u) rfl 4 (by decide) f_85 (fun _ h9 => h9) rfl dX8_plain_63 ?_
  refine lv_imul hx hb dX8_plain_66 ?_
  refine lv_icmp_ge (tgt := 138) hx hb dX8_plain_67 (by decide) (fun c10 => ?_) (fun c10 => ?_)
  · have hP := (if_pos c10).symm.trans hP
    have hq := hq.1 c10
    let v11 : Int32 := (y3 + (1 : Int32))
    refine lv_iinc (v := v11) (lv' := [(3, .int v11), (0, .ref (a 0)), (2, .int y2), (4, .int y4)]) hx hb dX8_plain_138 hl (k := 2) rfl rfl (by decide) rfl (fun ls hl => ?_)
    refine lv_goto (tgt := 50) hx hb dX8_plain_141 (by decide) ?_
    exact hK50 u (y2) (v11) H locs ls hq hP hw (lv_sub hl [1, 2, 0] rfl)
  · have hP := (if_neg c10).symm.trans hP
    have hq := hq.2 c10
    refine lv_iconst (v := 0) hx hb dX8_plain_70 (by decide) ?_
    refine lv_istore (lv' := [(5, .int (0 : Int32)), (0, .ref (a 0)), (2, .int y2), (3, .int y3), (4, .int y4)]) hx hb dX8_plain_71 hl (by decide) rfl (fun ls hl => ?_)
    exact mw_M_plain_73 l D a k3 av F P K50 Q50 hK50 K59 Q59 hK59 64 u y2 y3 y4 (0 : Int32) H locs ls hq hP hw (lv_sub hl [1, 2, 3, 4, 0] rfl)
set_option maxHeartbeats 4000000 in
set_option maxRecDepth 100000 in
theorem mw_M_plain_59 (l : Launch) (D : va_G) (a : Nat → Nat) (k3 : K3) {p : Program} {e : Env} {s : State} {m : MethodId} {below : List Frame} {meth : Method} {c : Code} {A : Nat → Prop} (av : Array Value) (F : Fx p s m meth c av cX8_plain 6 (some .int) yX8_plain.cls (kX8_plain :: tbG) D vwCl (ty3 k3) nestW A) (P : Int32 × S4) (K50 : S4 → Int32 → Int32 → (Int32 × S4)) (Q50 : S4 → Int32 → Int32 → Prop) (hK50 : ∀ (u : S4) (y2 : Int32) (y3 : Int32) (H : Heap) (locs : List Loc) (ls : Array Slot), Q50 u y2 y3 → K50 u y2 y3 = P → wd D vwCl (mC a k3) A s.heap u H locs → lv_has ls 6 [(0, .ref (a 0)), (2, .int y2), (3, .int y3)] → W p l e rm_mM_plain s m av below meth c H locs 0 0 (QI below D vwCl (mC a k3) A av s P) (F0 m 50 ls [])) : ∀ (n : Nat), ∀ (u : S4) (y2 : Int32) (y3 : Int32) (y4 : Int32) (H : Heap) (locs : List Loc) (ls : Array Slot), mLq_M_plain_59 Q50 n u y2 y3 y4 → mL_M_plain_59 K50 n u y2 y3 y4 = P → wd D vwCl (mC a k3) A s.heap u H locs → lv_has ls 6 [(0, .ref (a 0)), (2, .int y2), (3, .int y3), (4, .int y4)] → W p l e rm_mM_plain s m av below meth c H locs 0 0 (QI below D vwCl (mC a k3) A av s P) (F0 m 59 ls []) := by
  intro n
  induction n with
  | zero => intro u y2 y3 y4 H locs ls hq hP hw hl; exact hq.elim
  | succ n ih => intro u y2 y3 y4 H locs ls hq hP hw hl; exact ms_M_plain_59 l D a k3 av F P K50 Q50 hK50 (mL_M_plain_59 K50 n) (mLq_M_plain_59 Q50 n) ih u y2 y3 y4 H locs ls hq hP hw hl
def mB_M_plain_50 (K50 : S4 → Int32 → Int32 → (Int32 × S4)) (u : S4) (y2 : Int32) (y3 : Int32) : Int32 × S4 :=
  if (24 : Int32) ≤ y3 then
    ((s4_ra u 18 ((2 : Int32) * y2)), u)
  else
    mL_M_plain_59 K50 64 u y2 y3 (0 : Int32)
def mL_M_plain_50 : Nat → S4 → Int32 → Int32 → (Int32 × S4)
  | 0 => fun u _ _ => (0, u)
  | n + 1 => mB_M_plain_50 (mL_M_plain_50 n)
def mBq_M_plain_50 (Q50 : S4 → Int32 → Int32 → Prop) (u : S4) (y2 : Int32) (y3 : Int32) : Prop :=
  (((24 : Int32) ≤ y3 →
    vp_in ((2 : Int32) * y2) 24) ∧ (¬ (24 : Int32) ≤ y3 →
    mLq_M_plain_59 Q50 64 u y2 y3 (0 : Int32)))
def mLq_M_plain_50 : Nat → S4 → Int32 → Int32 → Prop
  | 0 => fun _ _ _ => False
  | n + 1 => mBq_M_plain_50 (mLq_M_plain_50 n)
set_option maxHeartbeats 4000000 in
set_option maxRecDepth 100000 in
theorem ms_M_plain_50 (l : Launch) (D : va_G) (a : Nat → Nat) (k3 : K3) {p : Program} {e : Env} {s : State} {m : MethodId} {below : List Frame} {meth : Method} {c : Code} {A : Nat → Prop} (av : Array Value) (F : Fx p s m meth c av cX8_plain 6 (some .int) yX8_plain.cls (kX8_plain :: tbG) D vwCl (ty3 k3) nestW A) (P : Int32 × S4) (K50 : S4 → Int32 → Int32 → (Int32 × S4)) (Q50 : S4 → Int32 → Int32 → Prop) (hK50 : ∀ (u : S4) (y2 : Int32) (y3 : Int32) (H : Heap) (locs : List Loc) (ls : Array Slot), Q50 u y2 y3 → K50 u y2 y3 = P → wd D vwCl (mC a k3) A s.heap u H locs → lv_has ls 6 [(0, .ref (a 0)), (2, .int y2), (3, .int y3)] → W p l e rm_mM_plain s m av below meth c H locs 0 0 (QI below D vwCl (mC a k3) A av s P) (F0 m 50 ls [])) : ∀ (u : S4) (y2 : Int32) (y3 : Int32) (H : Heap) (locs : List Loc) (ls : Array Slot), mBq_M_plain_50 Q50 u y2 y3 → mB_M_plain_50 K50 u y2 y3 = P → wd D vwCl (mC a k3) A s.heap u H locs → lv_has ls 6 [(0, .ref (a 0)), (2, .int y2), (3, .int y3)] → W p l e rm_mM_plain s m av below meth c H locs 0 0 (QI below D vwCl (mC a k3) A av s P) (F0 m 50 ls []) := by
  obtain ⟨hx, hb, hr, hml, hown, hts, hK, hN, hlocks, hA⟩ := id F
  have hown : s.vm.findClass RX8 = some m.cls := hown
  have htG : ∀ w ∈ tbG, w.before av s = true := fun w h => hts w (List.mem_cons_of_mem _ h)
  have f_76 := htG _ tb_540
  intro u y2 y3 H locs ls hq hP hw hl
  refine lv_iload_n hx hb dX8_plain_50 rfl (lv_at hl 2 rfl) ?_
  refine lv_bipush (v := 24) hx hb dX8_plain_51 (by decide) ?_
  refine lv_icmp_ge (tgt := 144) hx hb dX8_plain_53 (by decide) (fun c8 => ?_) (fun c8 => ?_)
  · have hP := (if_pos c8).symm.trans hP
    have hq := hq.1 c8
    refine lv_aload_n hx hb dX8_plain_144 rfl (lv_at hl 0 rfl) ?_
    refine va_get (D := D) (ci := 8) (v := .ref (a 21)) (C := RX8) (T := TX8) (N := 28) hx hb htG in_8 hown hK hw.1 0 (mo_0 a k3 u) rfl 26 (by decide) f_76 (fun _ h9 => h9) rfl dX8_plain_145 ?_
    refine lv_iconst (v := 2) hx hb dX8_plain_148 (by decide) ?_
    refine lv_iload_n hx hb dX8_plain_149 rfl (lv_at hl 1 rfl) ?_
    refine lv_imul hx hb dX8_plain_150 ?_
    have h9 := hq
    refine y_iald (t0 := 0) hx hb hK hw 18 (mo_21 a k3 u) rfl h9 dX8_plain_151 ?_
    exact ret_i hx hb hr hlocks hw dX8_plain_152 hP
  · have hP := (if_neg c8).symm.trans hP
    have hq := hq.2 c8
    refine lv_iconst (v := 0) hx hb dX8_plain_56 (by decide) ?_
    refine lv_istore (lv' := [(4, .int (0 : Int32)), (0, .ref (a 0)), (2, .int y2), (3, .int y3)]) hx hb dX8_plain_57 hl (by decide) rfl (fun ls hl => ?_)
    exact mw_M_plain_59 l D a k3 av F P K50 Q50 hK50 64 u y2 y3 (0 : Int32) H locs ls hq hP hw (lv_sub hl [1, 2, 3, 0] rfl)
set_option maxHeartbeats 4000000 in
set_option maxRecDepth 100000 in
theorem mw_M_plain_50 (l : Launch) (D : va_G) (a : Nat → Nat) (k3 : K3) {p : Program} {e : Env} {s : State} {m : MethodId} {below : List Frame} {meth : Method} {c : Code} {A : Nat → Prop} (av : Array Value) (F : Fx p s m meth c av cX8_plain 6 (some .int) yX8_plain.cls (kX8_plain :: tbG) D vwCl (ty3 k3) nestW A) (P : Int32 × S4) : ∀ (n : Nat), ∀ (u : S4) (y2 : Int32) (y3 : Int32) (H : Heap) (locs : List Loc) (ls : Array Slot), mLq_M_plain_50 n u y2 y3 → mL_M_plain_50 n u y2 y3 = P → wd D vwCl (mC a k3) A s.heap u H locs → lv_has ls 6 [(0, .ref (a 0)), (2, .int y2), (3, .int y3)] → W p l e rm_mM_plain s m av below meth c H locs 0 0 (QI below D vwCl (mC a k3) A av s P) (F0 m 50 ls []) := by
  intro n
  induction n with
  | zero => intro u y2 y3 H locs ls hq hP hw hl; exact hq.elim
  | succ n ih => intro u y2 y3 H locs ls hq hP hw hl; exact ms_M_plain_50 l D a k3 av F P (mL_M_plain_50 n) (mLq_M_plain_50 n) ih u y2 y3 H locs ls hq hP hw hl
def mB_M_plain_20 (K20 : S4 → Int32 → Int32 → Int32 → (Int32 × S4)) (u : S4) (y1 : Int32) (y2 : Int32) (y3 : Int32) : Int32 × S4 :=
  if (24 : Int32) ≤ y3 then
    let u7 : S4 := s4_wa u 18 ((2 : Int32) * y1) (0 : Int32)
    mL_M_plain_50 64 u7 y2 (0 : Int32)
  else
    let u28 : S4 := s4_wa u 18 y3 (-1 : Int32)
    let v29 : Int32 := (y3 + (1 : Int32))
    K20 u28 y1 y2 v29
def mL_M_plain_20 : Nat → S4 → Int32 → Int32 → Int32 → (Int32 × S4)
  | 0 => fun u _ _ _ => (0, u)
  | n + 1 => mB_M_plain_20 (mL_M_plain_20 n)
def mBq_M_plain_20 (Q20 : S4 → Int32 → Int32 → Int32 → Prop) (u : S4) (y1 : Int32) (y2 : Int32) (y3 : Int32) : Prop :=
  (((24 : Int32) ≤ y3 →
    vp_in ((2 : Int32) * y1) 24 ∧
    let u7 : S4 := s4_wa u 18 ((2 : Int32) * y1) (0 : Int32)
    mLq_M_plain_50 64 u7 y2 (0 : Int32)) ∧ (¬ (24 : Int32) ≤ y3 →
    vp_in y3 24 ∧
    let u28 : S4 := s4_wa u 18 y3 (-1 : Int32)
    let v29 : Int32 := (y3 + (1 : Int32))
    Q20 u28 y1 y2 v29))
def mLq_M_plain_20 : Nat → S4 → Int32 → Int32 → Int32 → Prop
  | 0 => fun _ _ _ _ => False
  | n + 1 => mBq_M_plain_20 (mLq_M_plain_20 n)
set_option maxHeartbeats 4000000 in
set_option maxRecDepth 100000 in
theorem ms_M_plain_20 (l : Launch) (D : va_G) (a : Nat → Nat) (k3 : K3) {p : Program} {e : Env} {s : State} {m : MethodId} {below : List Frame} {meth : Method} {c : Code} {A : Nat → Prop} (av : Array Value) (F : Fx p s m meth c av cX8_plain 6 (some .int) yX8_plain.cls (kX8_plain :: tbG) D vwCl (ty3 k3) nestW A) (P : Int32 × S4) (K20 : S4 → Int32 → Int32 → Int32 → (Int32 × S4)) (Q20 : S4 → Int32 → Int32 → Int32 → Prop) (hK20 : ∀ (u : S4) (y1 : Int32) (y2 : Int32) (y3 : Int32) (H : Heap) (locs : List Loc) (ls : Array Slot), Q20 u y1 y2 y3 → K20 u y1 y2 y3 = P → wd D vwCl (mC a k3) A s.heap u H locs → lv_has ls 6 [(0, .ref (a 0)), (1, .int y1), (2, .int y2), (3, .int y3)] → W p l e rm_mM_plain s m av below meth c H locs 0 0 (QI below D vwCl (mC a k3) A av s P) (F0 m 20 ls [])) : ∀ (u : S4) (y1 : Int32) (y2 : Int32) (y3 : Int32) (H : Heap) (locs : List Loc) (ls : Array Slot), mBq_M_plain_20 Q20 u y1 y2 y3 → mB_M_plain_20 K20 u y1 y2 y3 = P → wd D vwCl (mC a k3) A s.heap u H locs → lv_has ls 6 [(0, .ref (a 0)), (1, .int y1), (2, .int y2), (3, .int y3)] → W p l e rm_mM_plain s m av below meth c H locs 0 0 (QI below D vwCl (mC a k3) A av s P) (F0 m 20 ls []) := by
  obtain ⟨hx, hb, hr, hml, hown, hts, hK, hN, hlocks, hA⟩ := id F
  have hown : s.vm.findClass RX8 = some m.cls := hown
  have htG : ∀ w ∈ tbG, w.before av s = true := fun w h => hts w (List.mem_cons_of_mem _ h)
  have f_76 := htG _ tb_540
  intro u y1 y2 y3 H locs ls hq hP hw hl
  refine lv_iload_n hx hb dX8_plain_20 rfl (lv_at hl 3 rfl) ?_
  refine lv_bipush (v := 24) hx hb dX8_plain_21 (by decide) ?_
  refine lv_icmp_ge (tgt := 39) hx hb dX8_plain_23 (by decide) (fun c5 => ?_) (fun c5 => ?_)
  · have hP := (if_pos c5).symm.trans hP
    have hq := hq.1 c5
    refine lv_aload_n hx hb dX8_plain_39 rfl (lv_at hl 0 rfl) ?_
    refine va_get (D := D) (ci := 8) (v := .ref (a 21)) (C := RX8) (T := TX8) (N := 28) hx hb htG in_8 hown hK hw.1 0 (mo_0 a k3 u) rfl 26 (by decide) f_76 (fun _ h9 => h9) rfl dX8_plain_40 ?_
    refine lv_iconst (v := 2) hx hb dX8_plain_43 (by decide) ?_
    refine lv_iload_n hx hb dX8_plain_44 rfl (lv_at hl 1 rfl) ?_
    refine lv_imul hx hb dX8_plain_45 ?_
    refine lv_iconst (v := 0) hx hb dX8_plain_46 (by decide) ?_
    obtain ⟨h6, hq⟩ := hq
    let u7 : S4 := s4_wa u 18 ((2 : Int32) * y1) (0 : Int32)
    refine y_iast (t0 := 0) hx hb hK hw 18 (mo_21 a k3 u) (mq_21 a k3 u) rfl h6 dX8_plain_47 (fun H locs (hw : wd D vwCl (mC a k3) A s.heap u7 H locs) => ?_)
    refine lv_iconst (v := 0) hx hb dX8_plain_48 (by decide) ?_
    refine lv_istore_n (lv' := [(3, .int (0 : Int32)), (0, .ref (a 0)), (1, .int y1), (2, .int y2)]) hx hb dX8_plain_49 rfl hl (by decide) rfl (fun ls hl => ?_)
    exact mw_M_plain_50 l D a k3 av F P 64 u7 y2 (0 : Int32) H locs ls hq hP hw (lv_sub hl [1, 3, 0] rfl)
  · have hP := (if_neg c5).symm.trans hP
    have hq := hq.2 c5
    refine lv_aload_n hx hb dX8_plain_26 rfl (lv_at hl 0 rfl) ?_
    refine va_get (D := D) (ci := 8) (v := .ref (a 21)) (C := RX8) (T := TX8) (N := 28) hx hb htG in_8 hown hK hw.1 0 (mo_0 a k3 u) rfl 26 (by decide) f_76 (fun _ h9 => h9) rfl dX8_plain_27 ?_
    refine lv_iload_n hx hb dX8_plain_30 rfl (lv_at hl 3 rfl) ?_
    refine lv_iconst (v := -1) hx hb dX8_plain_31 (by decide) ?_
    obtain ⟨h27, hq⟩ := hq
    let u28 : S4 := s4_wa u 18 y3 (-1 : Int32)
    refine y_iast (t0 := 0) hx hb hK hw 18 (mo_21 a k3 u) (mq_21 a k3 u) rfl h27 dX8_plain_32 (fun H locs (hw : wd D vwCl (mC a k3) A s.heap u28 H locs) => ?_)
    let v29 : Int32 := (y3 + (1 : Int32))
    refine lv_iinc (v := v29) (lv' := [(3, .int v29), (0, .ref (a 0)), (1, .int y1), (2, .int y2)]) hx hb dX8_plain_33 hl (k := 3) rfl rfl (by decide) rfl (fun ls hl => ?_)
    refine lv_goto (tgt := 20) hx hb dX8_plain_36 (by decide) ?_
    exact hK20 u28 (y1) (y2) (v29) H locs ls hq hP hw (lv_sub hl [1, 2, 3, 0] rfl)
set_option maxHeartbeats 4000000 in
set_option maxRecDepth 100000 in
theorem mw_M_plain_20 (l : Launch) (D : va_G) (a : Nat → Nat) (k3 : K3) {p : Program} {e : Env} {s : State} {m : MethodId} {below : List Frame} {meth : Method} {c : Code} {A : Nat → Prop} (av : Array Value) (F : Fx p s m meth c av cX8_plain 6 (some .int) yX8_plain.cls (kX8_plain :: tbG) D vwCl (ty3 k3) nestW A) (P : Int32 × S4) : ∀ (n : Nat), ∀ (u : S4) (y1 : Int32) (y2 : Int32) (y3 : Int32) (H : Heap) (locs : List Loc) (ls : Array Slot), mLq_M_plain_20 n u y1 y2 y3 → mL_M_plain_20 n u y1 y2 y3 = P → wd D vwCl (mC a k3) A s.heap u H locs → lv_has ls 6 [(0, .ref (a 0)), (1, .int y1), (2, .int y2), (3, .int y3)] → W p l e rm_mM_plain s m av below meth c H locs 0 0 (QI below D vwCl (mC a k3) A av s P) (F0 m 20 ls []) := by
  intro n
  induction n with
  | zero => intro u y1 y2 y3 H locs ls hq hP hw hl; exact hq.elim
  | succ n ih => intro u y1 y2 y3 H locs ls hq hP hw hl; exact ms_M_plain_20 l D a k3 av F P (mL_M_plain_20 n) (mLq_M_plain_20 n) ih u y1 y2 y3 H locs ls hq hP hw hl
def mp_M_plain (u : S4) (x1 : Int32) (x2 : Int32) : Int32 × S4 :=
  let r1 : Int32 := mp_M_isStreet u x1
  if r1 = (0 : Int32) then
    ((-1 : Int32), u)
  else
    let r3 : Int32 := mp_M_isStreet u x2
    if r3 = (0 : Int32) then
      ((-1 : Int32), u)
    else
      mL_M_plain_20 64 u x1 x2 (0 : Int32)
def mq_M_plain (u : S4) (x1 : Int32) (x2 : Int32) : Prop :=
  let r1 : Int32 := mp_M_isStreet u x1
  (¬ r1 = (0 : Int32) →
    let r3 : Int32 := mp_M_isStreet u x2
    (¬ r3 = (0 : Int32) →
      mLq_M_plain_20 64 u x1 x2 (0 : Int32)))
set_option maxHeartbeats 4000000 in
set_option maxRecDepth 100000 in
theorem mc_M_plain (l : Launch) (D : va_G) (a : Nat → Nat) (k3 : K3) (u : S4) (x1 : Int32) (x2 : Int32) (hq : mq_M_plain u x1 x2) : MI l D vwCl (ty3 k3) nestW (mC a k3) yX8_plain (kX8_plain :: tbG) rm_mM_plain [.ref (a 0), .int x1, .int x2] u (mp_M_plain u x1 x2) := by
  refine mkI (cc := cX8_plain) (maxL := 6) (ret := (some .int)) (by decide) rfl (Nat.le_of_ble_eq_true rfl) ?_
  intro p e s m below meth c A ls F hw hl
  generalize hav : ([.ref (a 0), .int x1, .int x2] : List Value).toArray = av at F ⊢
  have hl : lv_has ls 6 [(0, .ref (a 0)), (1, .int x1), (2, .int x2)] := hl
  obtain ⟨hx, hb, hr, hml, hown, hts, hK, hN, hlocks, hA⟩ := id F
  have hown : s.vm.findClass RX8 = some m.cls := hown
  have htG : ∀ w ∈ tbG, w.before av s = true := fun w h => hts w (List.mem_cons_of_mem _ h)
  have hgo : ∀ P, mp_M_plain u x1 x2 = P → ∀ (H : Heap) (locs : List Loc), wd D vwCl (mC a k3) A s.heap u H locs → W p l e rm_mM_plain s m av below meth c H locs 0 0 (QI below D vwCl (mC a k3) A av s P) (F0 m 0 ls []) := by
    intro P hP H locs hw
    refine lv_aload_n hx hb dX8_plain_0 rfl (lv_at hl 0 rfl) ?_
    refine lv_iload_n hx hb dX8_plain_1 rfl (lv_at hl 1 rfl) ?_
    let r1 : Int32 := mp_M_isStreet u x1
    refine call_vir (rest := []) ⟨hx, hb, hml, hown, htG⟩ nestW_ok hK hN hA (mc_M_isStreet l D a k3 u x1) (cwV 1 htG (tb_V tb_624 tb_626 tb_10 tb_28 tb_627) rfl rfl rfl (by decide +kernel) ⟨Nat.le_of_ble_eq_true rfl, Nat.le_of_ble_eq_true rfl⟩) (ci := 8) rfl (mo_0 a k3 u) rfl hw rfl hl.1 rfl (Nat.le_of_ble_eq_true rfl) dX8_plain_2 ⟨Nat.zero_le _, Nat.zero_le _⟩ (fun H locs (hw : wd D vwCl (mC a k3) A s.heap u H locs) => ?_)
    refine lv_if_eq (tgt := 16) hx hb dX8_plain_5 (by decide) (fun c2 => ?_) (fun c2 => ?_)
    · have hP := (if_pos c2).symm.trans hP
      refine lv_iconst (v := -1) hx hb dX8_plain_16 (by decide) ?_
      exact ret_i hx hb hr hlocks hw dX8_plain_17 hP
    · have hP := (if_neg c2).symm.trans hP
      have hq := hq c2
      refine lv_aload_n hx hb dX8_plain_8 rfl (lv_at hl 0 rfl) ?_
      refine lv_iload_n hx hb dX8_plain_9 rfl (lv_at hl 2 rfl) ?_
      let r3 : Int32 := mp_M_isStreet u x2
      refine call_vir (rest := []) ⟨hx, hb, hml, hown, htG⟩ nestW_ok hK hN hA (mc_M_isStreet l D a k3 u x2) (cwV 1 htG (tb_V tb_624 tb_626 tb_10 tb_28 tb_627) rfl rfl rfl (by decide +kernel) ⟨Nat.le_of_ble_eq_true rfl, Nat.le_of_ble_eq_true rfl⟩) (ci := 8) rfl (mo_0 a k3 u) rfl hw rfl hl.1 rfl (Nat.le_of_ble_eq_true rfl) dX8_plain_10 ⟨Nat.zero_le _, Nat.zero_le _⟩ (fun H locs (hw : wd D vwCl (mC a k3) A s.heap u H locs) => ?_)
      refine lv_if_ne (tgt := 18) hx hb dX8_plain_13 (by decide) (fun c4 => ?_) (fun c4 => ?_)
      · have hP := (if_neg c4).symm.trans hP
        have hq := hq c4
        refine lv_iconst (v := 0) hx hb dX8_plain_18 (by decide) ?_
        refine lv_istore_n (lv' := [(3, .int (0 : Int32)), (0, .ref (a 0)), (1, .int x1), (2, .int x2)]) hx hb dX8_plain_19 rfl hl (by decide) rfl (fun ls hl => ?_)
        exact mw_M_plain_20 l D a k3 av F P 64 u x1 x2 (0 : Int32) H locs ls hq hP hw (lv_sub hl [1, 2, 3, 0] rfl)
      · have hP := (if_pos c4).symm.trans hP
        refine lv_iconst (v := -1) hx hb dX8_plain_16 (by decide) ?_
        exact ret_i hx hb hr hlocks hw dX8_plain_17 hP
  exact hgo _ rfl s.heap [] hw
theorem dX8_need_0 : decode cX8_need 0 = .ok (.aload_n 0, 1) := by decide +kernel
theorem dX8_need_1 : decode cX8_need 1 = .ok (.getfield 150, 3) := by decide +kernel
theorem dX8_need_4 : decode cX8_need 4 = .ok (.bipush 20, 2) := by decide +kernel
theorem dX8_need_6 : decode cX8_need 6 = .ok (.if_icmp .eq 12, 3) := by decide +kernel
theorem dX8_need_9 : decode cX8_need 9 = .ok (.aload_n 0, 1) := by decide +kernel
theorem dX8_need_10 : decode cX8_need 10 = .ok (.iload_n 1, 1) := by decide +kernel
theorem dX8_need_11 : decode cX8_need 11 = .ok (.iload_n 2, 1) := by decide +kernel
theorem dX8_need_12 : decode cX8_need 12 = .ok (.invokevirtual 138, 3) := by decide +kernel
theorem dX8_need_15 : decode cX8_need 15 = .ok (.ifCond .ne 5, 3) := by decide +kernel
theorem dX8_need_18 : decode cX8_need 18 = .ok (.iconst (-1), 1) := by decide +kernel
theorem dX8_need_19 : decode cX8_need 19 = .ok (.ireturn, 1) := by decide +kernel
theorem dX8_need_20 : decode cX8_need 20 = .ok (.aload_n 0, 1) := by decide +kernel
theorem dX8_need_21 : decode cX8_need 21 = .ok (.getfield 54, 3) := by decide +kernel
theorem dX8_need_24 : decode cX8_need 24 = .ok (.aload_n 0, 1) := by decide +kernel
theorem dX8_need_25 : decode cX8_need 25 = .ok (.getfield 150, 3) := by decide +kernel
theorem dX8_need_28 : decode cX8_need 28 = .ok (.iconst 2, 1) := by decide +kernel
theorem dX8_need_29 : decode cX8_need 29 = .ok (.iload_n 1, 1) := by decide +kernel
theorem dX8_need_30 : decode cX8_need 30 = .ok (.imul, 1) := by decide +kernel
theorem dX8_need_31 : decode cX8_need 31 = .ok (.iload_n 2, 1) := by decide +kernel
theorem dX8_need_32 : decode cX8_need 32 = .ok (.iadd, 1) := by decide +kernel
theorem dX8_need_33 : decode cX8_need 33 = .ok (.iastore, 1) := by decide +kernel
theorem dX8_need_34 : decode cX8_need 34 = .ok (.aload_n 0, 1) := by decide +kernel
theorem dX8_need_35 : decode cX8_need 35 = .ok (.dup, 1) := by decide +kernel
theorem dX8_need_36 : decode cX8_need 36 = .ok (.getfield 150, 3) := by decide +kernel
theorem dX8_need_39 : decode cX8_need 39 = .ok (.iconst 1, 1) := by decide +kernel
theorem dX8_need_40 : decode cX8_need 40 = .ok (.iadd, 1) := by decide +kernel
theorem dX8_need_41 : decode cX8_need 41 = .ok (.putfield 150, 3) := by decide +kernel
theorem dX8_need_44 : decode cX8_need 44 = .ok (.aload_n 0, 1) := by decide +kernel
theorem dX8_need_45 : decode cX8_need 45 = .ok (.getfield 150, 3) := by decide +kernel
theorem dX8_need_48 : decode cX8_need 48 = .ok (.iconst 1, 1) := by decide +kernel
theorem dX8_need_49 : decode cX8_need 49 = .ok (.isub, 1) := by decide +kernel
theorem dX8_need_50 : decode cX8_need 50 = .ok (.ireturn, 1) := by decide +kernel
abbrev rm_mM_need : Room := { frames := 2, cells := 0, slots := 0, locals := 43 }
def mp_M_need (u : S4) (x1 : Int32) (x2 : Int32) : Int32 × S4 :=
  if (s4_i u 2) = (20 : Int32) then
    ((-1 : Int32), u)
  else
    let r2 : Int32 := mp_M_isSide u x1 x2
    if r2 = (0 : Int32) then
      ((-1 : Int32), u)
    else
      let u5 : S4 := s4_wa u 12 (s4_i u 2) (((2 : Int32) * x1) + x2)
      let v6 : Int32 := ((s4_i u5 2) + (1 : Int32))
      let u7 : S4 := s4_si u5 2 v6
      (((s4_i u7 2) - (1 : Int32)), u7)
def mq_M_need (u : S4) (x1 : Int32) (x2 : Int32) : Prop :=
  (¬ (s4_i u 2) = (20 : Int32) →
    let r2 : Int32 := mp_M_isSide u x1 x2
    (¬ r2 = (0 : Int32) →
      vp_in (s4_i u 2) 20))
set_option maxHeartbeats 4000000 in
set_option maxRecDepth 100000 in
theorem mc_M_need (l : Launch) (D : va_G) (a : Nat → Nat) (k3 : K3) (u : S4) (x1 : Int32) (x2 : Int32) (hq : mq_M_need u x1 x2) : MI l D vwCl (ty3 k3) nestW (mC a k3) yX8_need (kX8_need :: tbG) rm_mM_need [.ref (a 0), .int x1, .int x2] u (mp_M_need u x1 x2) := by
  refine mkI (cc := cX8_need) (maxL := 3) (ret := (some .int)) (by decide) rfl (Nat.le_of_ble_eq_true rfl) ?_
  intro p e s m below meth c A ls F hw hl
  generalize hav : ([.ref (a 0), .int x1, .int x2] : List Value).toArray = av at F ⊢
  have hl : lv_has ls 3 [(0, .ref (a 0)), (1, .int x1), (2, .int x2)] := hl
  obtain ⟨hx, hb, hr, hml, hown, hts, hK, hN, hlocks, hA⟩ := id F
  have hown : s.vm.findClass RX8 = some m.cls := hown
  have htG : ∀ w ∈ tbG, w.before av s = true := fun w h => hts w (List.mem_cons_of_mem _ h)
  have f_150 := htG _ tb_532
  have f_54 := htG _ tb_533
  have hgo : ∀ P, mp_M_need u x1 x2 = P → ∀ (H : Heap) (locs : List Loc), wd D vwCl (mC a k3) A s.heap u H locs → W p l e rm_mM_need s m av below meth c H locs 0 0 (QI below D vwCl (mC a k3) A av s P) (F0 m 0 ls []) := by
    intro P hP H locs hw
    refine lv_aload_n hx hb dX8_need_0 rfl (lv_at hl 0 rfl) ?_
    refine va_get (D := D) (ci := 8) (v := .int (s4_i u 2)) (C := RX8) (T := TX8) (N := 28) hx hb htG in_8 hown hK hw.1 0 (mo_0 a k3 u) rfl 18 (by decide) f_150 (fun _ h9 => h9) rfl dX8_need_1 ?_
    refine lv_bipush (v := 20) hx hb dX8_need_4 (by decide) ?_
    refine lv_icmp_eq (tgt := 18) hx hb dX8_need_6 (by decide) (fun c1 => ?_) (fun c1 => ?_)
    · have hP := (if_pos c1).symm.trans hP
      refine lv_iconst (v := -1) hx hb dX8_need_18 (by decide) ?_
      exact ret_i hx hb hr hlocks hw dX8_need_19 hP
    · have hP := (if_neg c1).symm.trans hP
      have hq := hq c1
      refine lv_aload_n hx hb dX8_need_9 rfl (lv_at hl 0 rfl) ?_
      refine lv_iload_n hx hb dX8_need_10 rfl (lv_at hl 1 rfl) ?_
      refine lv_iload_n hx hb dX8_need_11 rfl (lv_at hl 2 rfl) ?_
      let r2 : Int32 := mp_M_isSide u x1 x2
      refine call_vir (rest := []) ⟨hx, hb, hml, hown, htG⟩ nestW_ok hK hN hA (mc_M_isSide l D a k3 u x1 x2) (cwV 2 htG (tb_V tb_650 tb_652 tb_11 tb_28 tb_653) rfl rfl rfl (by decide +kernel) ⟨Nat.le_of_ble_eq_true rfl, Nat.le_of_ble_eq_true rfl⟩) (ci := 8) rfl (mo_0 a k3 u) rfl hw rfl hl.1 rfl (Nat.le_of_ble_eq_true rfl) dX8_need_12 ⟨Nat.zero_le _, Nat.zero_le _⟩ (fun H locs (hw : wd D vwCl (mC a k3) A s.heap u H locs) => ?_)
      refine lv_if_ne (tgt := 20) hx hb dX8_need_15 (by decide) (fun c3 => ?_) (fun c3 => ?_)
      · have hP := (if_neg c3).symm.trans hP
        have hq := hq c3
        refine lv_aload_n hx hb dX8_need_20 rfl (lv_at hl 0 rfl) ?_
        refine va_get (D := D) (ci := 8) (v := .ref (a 15)) (C := RX8) (T := TX8) (N := 28) hx hb htG in_8 hown hK hw.1 0 (mo_0 a k3 u) rfl 19 (by decide) f_54 (fun _ h9 => h9) rfl dX8_need_21 ?_
        refine lv_aload_n hx hb dX8_need_24 rfl (lv_at hl 0 rfl) ?_
        refine va_get (D := D) (ci := 8) (v := .int (s4_i u 2)) (C := RX8) (T := TX8) (N := 28) hx hb htG in_8 hown hK hw.1 0 (mo_0 a k3 u) rfl 18 (by decide) f_150 (fun _ h9 => h9) rfl dX8_need_25 ?_
        refine lv_iconst (v := 2) hx hb dX8_need_28 (by decide) ?_
        refine lv_iload_n hx hb dX8_need_29 rfl (lv_at hl 1 rfl) ?_
        refine lv_imul hx hb dX8_need_30 ?_
        refine lv_iload_n hx hb dX8_need_31 rfl (lv_at hl 2 rfl) ?_
        refine lv_iadd hx hb dX8_need_32 ?_
        have h4 := hq
        let u5 : S4 := s4_wa u 12 (s4_i u 2) (((2 : Int32) * x1) + x2)
        refine y_iast (t0 := 0) hx hb hK hw 12 (mo_15 a k3 u) (mq_15 a k3 u) rfl h4 dX8_need_33 (fun H locs (hw : wd D vwCl (mC a k3) A s.heap u5 H locs) => ?_)
        refine lv_aload_n hx hb dX8_need_34 rfl (lv_at hl 0 rfl) ?_
        refine lv_dup hx hb dX8_need_35 rfl ?_
        refine va_get (D := D) (ci := 8) (v := .int (s4_i u5 2)) (C := RX8) (T := TX8) (N := 28) hx hb htG in_8 hown hK hw.1 0 (mo_0 a k3 u5) rfl 18 (by decide) f_150 (fun _ h9 => h9) rfl dX8_need_36 ?_
        refine lv_iconst (v := 1) hx hb dX8_need_39 (by decide) ?_
        refine lv_iadd hx hb dX8_need_40 ?_
        let v6 : Int32 := ((s4_i u5 2) + (1 : Int32))
        let u7 : S4 := s4_si u5 2 v6
        refine y_puti hx hb htG in_8 tyX8 tyX8_ok nX8 hown hK hw 2 (mo_0 a k3 u5) rfl 18 (by decide) f_150 (fun _ h9 => h9) rfl (by decide +kernel) (Nat.le_of_ble_eq_true rfl) (mt_i2 a k3 u5 v6) dX8_need_41 (fun H locs (hw : wd D vwCl (mC a k3) A s.heap u7 H locs) => ?_)
        refine lv_aload_n hx hb dX8_need_44 rfl (lv_at hl 0 rfl) ?_
        refine va_get (D := D) (ci := 8) (v := .int (s4_i u7 2)) (C := RX8) (T := TX8) (N := 28) hx hb htG in_8 hown hK hw.1 0 (mo_0 a k3 u7) rfl 18 (by decide) f_150 (fun _ h9 => h9) rfl dX8_need_45 ?_
        refine lv_iconst (v := 1) hx hb dX8_need_48 (by decide) ?_
        refine lv_isub hx hb dX8_need_49 ?_
        exact ret_i hx hb hr hlocks hw dX8_need_50 hP
      · have hP := (if_pos c3).symm.trans hP
        refine lv_iconst (v := -1) hx hb dX8_need_18 (by decide) ?_
        exact ret_i hx hb hr hlocks hw dX8_need_19 hP
  exact hgo _ rfl s.heap [] hw
theorem dX8_joined_0 : decode cX8_joined 0 = .ok (.iload_n 1, 1) := by decide +kernel
theorem dX8_joined_1 : decode cX8_joined 1 = .ok (.ifCond .lt 23, 3) := by decide +kernel
theorem dX8_joined_4 : decode cX8_joined 4 = .ok (.iload_n 1, 1) := by decide +kernel
theorem dX8_joined_5 : decode cX8_joined 5 = .ok (.aload_n 0, 1) := by decide +kernel
theorem dX8_joined_6 : decode cX8_joined 6 = .ok (.getfield 150, 3) := by decide +kernel
theorem dX8_joined_9 : decode cX8_joined 9 = .ok (.if_icmp .ge 15, 3) := by decide +kernel
theorem dX8_joined_12 : decode cX8_joined 12 = .ok (.iload_n 2, 1) := by decide +kernel
theorem dX8_joined_13 : decode cX8_joined 13 = .ok (.ifCond .lt 11, 3) := by decide +kernel
theorem dX8_joined_16 : decode cX8_joined 16 = .ok (.iload_n 2, 1) := by decide +kernel
theorem dX8_joined_17 : decode cX8_joined 17 = .ok (.aload_n 0, 1) := by decide +kernel
theorem dX8_joined_18 : decode cX8_joined 18 = .ok (.getfield 150, 3) := by decide +kernel
theorem dX8_joined_21 : decode cX8_joined 21 = .ok (.if_icmp .lt 5, 3) := by decide +kernel
theorem dX8_joined_24 : decode cX8_joined 24 = .ok (.iconst (-1), 1) := by decide +kernel
theorem dX8_joined_25 : decode cX8_joined 25 = .ok (.ireturn, 1) := by decide +kernel
theorem dX8_joined_26 : decode cX8_joined 26 = .ok (.aload_n 0, 1) := by decide +kernel
theorem dX8_joined_27 : decode cX8_joined 27 = .ok (.getfield 54, 3) := by decide +kernel
theorem dX8_joined_30 : decode cX8_joined 30 = .ok (.iload_n 1, 1) := by decide +kernel
theorem dX8_joined_31 : decode cX8_joined 31 = .ok (.iaload, 1) := by decide +kernel
theorem dX8_joined_32 : decode cX8_joined 32 = .ok (.aload_n 0, 1) := by decide +kernel
theorem dX8_joined_33 : decode cX8_joined 33 = .ok (.getfield 54, 3) := by decide +kernel
theorem dX8_joined_36 : decode cX8_joined 36 = .ok (.iload_n 2, 1) := by decide +kernel
theorem dX8_joined_37 : decode cX8_joined 37 = .ok (.iaload, 1) := by decide +kernel
theorem dX8_joined_38 : decode cX8_joined 38 = .ok (.if_icmp .ne 7, 3) := by decide +kernel
theorem dX8_joined_41 : decode cX8_joined 41 = .ok (.iconst 2, 1) := by decide +kernel
theorem dX8_joined_42 : decode cX8_joined 42 = .ok (.goto 27, 3) := by decide +kernel
theorem dX8_joined_45 : decode cX8_joined 45 = .ok (.aload_n 0, 1) := by decide +kernel
theorem dX8_joined_46 : decode cX8_joined 46 = .ok (.aload_n 0, 1) := by decide +kernel
theorem dX8_joined_47 : decode cX8_joined 47 = .ok (.getfield 54, 3) := by decide +kernel
theorem dX8_joined_50 : decode cX8_joined 50 = .ok (.iload_n 1, 1) := by decide +kernel
theorem dX8_joined_51 : decode cX8_joined 51 = .ok (.iaload, 1) := by decide +kernel
theorem dX8_joined_52 : decode cX8_joined 52 = .ok (.aload_n 0, 1) := by decide +kernel
theorem dX8_joined_53 : decode cX8_joined 53 = .ok (.getfield 54, 3) := by decide +kernel
theorem dX8_joined_56 : decode cX8_joined 56 = .ok (.iload_n 2, 1) := by decide +kernel
theorem dX8_joined_57 : decode cX8_joined 57 = .ok (.iaload, 1) := by decide +kernel
theorem dX8_joined_58 : decode cX8_joined 58 = .ok (.invokevirtual 130, 3) := by decide +kernel
theorem dX8_joined_61 : decode cX8_joined 61 = .ok (.ifCond .eq 7, 3) := by decide +kernel
theorem dX8_joined_64 : decode cX8_joined 64 = .ok (.iconst 1, 1) := by decide +kernel
theorem dX8_joined_65 : decode cX8_joined 65 = .ok (.goto 4, 3) := by decide +kernel
theorem dX8_joined_68 : decode cX8_joined 68 = .ok (.iconst 0, 1) := by decide +kernel
theorem dX8_joined_69 : decode cX8_joined 69 = .ok (.ireturn, 1) := by decide +kernel
abbrev rm_mM_joined : Room := { frames := 2, cells := 0, slots := 0, locals := 45 }
def mp_M_joined (u : S4) (x1 : Int32) (x2 : Int32) : Int32 :=
  if x1 < (0 : Int32) then
    (-1 : Int32)
  else
    if (s4_i u 2) ≤ x1 then
      (-1 : Int32)
    else
      if x2 < (0 : Int32) then
        (-1 : Int32)
      else
        if x2 < (s4_i u 2) then
          if (s4_ra u 12 x1) = (s4_ra u 12 x2) then
            (2 : Int32)
          else
            let r11 : Int32 := mp_M_goesInto u (s4_ra u 12 x1) (s4_ra u 12 x2)
            if r11 = (0 : Int32) then
              (0 : Int32)
            else
              (1 : Int32)
        else
          (-1 : Int32)
def mq_M_joined (u : S4) (x1 : Int32) (x2 : Int32) : Prop :=
  (¬ x1 < (0 : Int32) →
    (¬ (s4_i u 2) ≤ x1 →
      (¬ x2 < (0 : Int32) →
        (x2 < (s4_i u 2) →
          vp_in x1 20 ∧
          vp_in x2 20 ∧
          (¬ (s4_ra u 12 x1) = (s4_ra u 12 x2) →
            vp_in x1 20 ∧
            vp_in x2 20 ∧
            mq_M_goesInto u (s4_ra u 12 x1) (s4_ra u 12 x2))))))
set_option maxHeartbeats 4000000 in
set_option maxRecDepth 100000 in
theorem mc_M_joined (l : Launch) (D : va_G) (a : Nat → Nat) (k3 : K3) (u : S4) (x1 : Int32) (x2 : Int32) (hq : mq_M_joined u x1 x2) : MI l D vwCl (ty3 k3) nestW (mC a k3) yX8_joined (kX8_joined :: tbG) rm_mM_joined [.ref (a 0), .int x1, .int x2] u (mp_M_joined u x1 x2, u) := by
  refine mkI (cc := cX8_joined) (maxL := 3) (ret := (some .int)) (by decide) rfl (Nat.le_of_ble_eq_true rfl) ?_
  intro p e s m below meth c A ls F hw hl
  generalize hav : ([.ref (a 0), .int x1, .int x2] : List Value).toArray = av at F ⊢
  have hl : lv_has ls 3 [(0, .ref (a 0)), (1, .int x1), (2, .int x2)] := hl
  obtain ⟨hx, hb, hr, hml, hown, hts, hK, hN, hlocks, hA⟩ := id F
  have hown : s.vm.findClass RX8 = some m.cls := hown
  have htG : ∀ w ∈ tbG, w.before av s = true := fun w h => hts w (List.mem_cons_of_mem _ h)
  have f_150 := htG _ tb_532
  have f_54 := htG _ tb_533
  have hgo : ∀ P, mp_M_joined u x1 x2 = P → ∀ (H : Heap) (locs : List Loc), wd D vwCl (mC a k3) A s.heap u H locs → W p l e rm_mM_joined s m av below meth c H locs 0 0 (QI below D vwCl (mC a k3) A av s (P, u)) (F0 m 0 ls []) := by
    intro P hP H locs hw
    refine lv_iload_n hx hb dX8_joined_0 rfl (lv_at hl 1 rfl) ?_
    refine lv_if_lt (tgt := 24) hx hb dX8_joined_1 (by decide) (fun c1 => ?_) (fun c1 => ?_)
    · have hP := (if_pos c1).symm.trans hP
      refine lv_iconst (v := -1) hx hb dX8_joined_24 (by decide) ?_
      exact ret_i hx hb hr hlocks hw dX8_joined_25 (congrArg (fun z => (z, u)) hP)
    · have hP := (if_neg c1).symm.trans hP
      have hq := hq c1
      refine lv_iload_n hx hb dX8_joined_4 rfl (lv_at hl 1 rfl) ?_
      refine lv_aload_n hx hb dX8_joined_5 rfl (lv_at hl 0 rfl) ?_
      refine va_get (D := D) (ci := 8) (v := .int (s4_i u 2)) (C := RX8) (T := TX8) (N := 28) hx hb htG in_8 hown hK hw.1 0 (mo_0 a k3 u) rfl 18 (by decide) f_150 (fun _ h9 => h9) rfl dX8_joined_6 ?_
      refine lv_icmp_ge (tgt := 24) hx hb dX8_joined_9 (by decide) (fun c2 => ?_) (fun c2 => ?_)
      · have hP := (if_pos c2).symm.trans hP
        refine lv_iconst (v := -1) hx hb dX8_joined_24 (by decide) ?_
        exact ret_i hx hb hr hlocks hw dX8_joined_25 (congrArg (fun z => (z, u)) hP)
      · have hP := (if_neg c2).symm.trans hP
        have hq := hq c2
        refine lv_iload_n hx hb dX8_joined_12 rfl (lv_at hl 2 rfl) ?_
        refine lv_if_lt (tgt := 24) hx hb dX8_joined_13 (by decide) (fun c3 => ?_) (fun c3 => ?_)
        · have hP := (if_pos c3).symm.trans hP
          refine lv_iconst (v := -1) hx hb dX8_joined_24 (by decide) ?_
          exact ret_i hx hb hr hlocks hw dX8_joined_25 (congrArg (fun z => (z, u)) hP)
        · have hP := (if_neg c3).symm.trans hP
          have hq := hq c3
          refine lv_iload_n hx hb dX8_joined_16 rfl (lv_at hl 2 rfl) ?_
          refine lv_aload_n hx hb dX8_joined_17 rfl (lv_at hl 0 rfl) ?_
          refine va_get (D := D) (ci := 8) (v := .int (s4_i u 2)) (C := RX8) (T := TX8) (N := 28) hx hb htG in_8 hown hK hw.1 0 (mo_0 a k3 u) rfl 18 (by decide) f_150 (fun _ h9 => h9) rfl dX8_joined_18 ?_
          refine lv_icmp_lt (tgt := 26) hx hb dX8_joined_21 (by decide) (fun c4 => ?_) (fun c4 => ?_)
          · have hP := (if_pos c4).symm.trans hP
            have hq := hq c4
            refine lv_aload_n hx hb dX8_joined_26 rfl (lv_at hl 0 rfl) ?_
            refine va_get (D := D) (ci := 8) (v := .ref (a 15)) (C := RX8) (T := TX8) (N := 28) hx hb htG in_8 hown hK hw.1 0 (mo_0 a k3 u) rfl 19 (by decide) f_54 (fun _ h9 => h9) rfl dX8_joined_27 ?_
            refine lv_iload_n hx hb dX8_joined_30 rfl (lv_at hl 1 rfl) ?_
            obtain ⟨h5, hq⟩ := hq
            refine y_iald (t0 := 0) hx hb hK hw 12 (mo_15 a k3 u) rfl h5 dX8_joined_31 ?_
            refine lv_aload_n hx hb dX8_joined_32 rfl (lv_at hl 0 rfl) ?_
            refine va_get (D := D) (ci := 8) (v := .ref (a 15)) (C := RX8) (T := TX8) (N := 28) hx hb htG in_8 hown hK hw.1 0 (mo_0 a k3 u) rfl 19 (by decide) f_54 (fun _ h9 => h9) rfl dX8_joined_33 ?_
            refine lv_iload_n hx hb dX8_joined_36 rfl (lv_at hl 2 rfl) ?_
            obtain ⟨h6, hq⟩ := hq
            refine y_iald (t0 := 0) hx hb hK hw 12 (mo_15 a k3 u) rfl h6 dX8_joined_37 ?_
            refine lv_icmp_ne (tgt := 45) hx hb dX8_joined_38 (by decide) (fun c7 => ?_) (fun c7 => ?_)
            · have hP := (if_neg c7).symm.trans hP
              have hq := hq c7
              refine lv_aload_n hx hb dX8_joined_45 rfl (lv_at hl 0 rfl) ?_
              refine lv_aload_n hx hb dX8_joined_46 rfl (lv_at hl 0 rfl) ?_
              refine va_get (D := D) (ci := 8) (v := .ref (a 15)) (C := RX8) (T := TX8) (N := 28) hx hb htG in_8 hown hK hw.1 0 (mo_0 a k3 u) rfl 19 (by decide) f_54 (fun _ h9 => h9) rfl dX8_joined_47 ?_
              refine lv_iload_n hx hb dX8_joined_50 rfl (lv_at hl 1 rfl) ?_
              obtain ⟨h8, hq⟩ := hq
              refine y_iald (t0 := 0) hx hb hK hw 12 (mo_15 a k3 u) rfl h8 dX8_joined_51 ?_
              refine lv_aload_n hx hb dX8_joined_52 rfl (lv_at hl 0 rfl) ?_
              refine va_get (D := D) (ci := 8) (v := .ref (a 15)) (C := RX8) (T := TX8) (N := 28) hx hb htG in_8 hown hK hw.1 0 (mo_0 a k3 u) rfl 19 (by decide) f_54 (fun _ h9 => h9) rfl dX8_joined_53 ?_
              refine lv_iload_n hx hb dX8_joined_56 rfl (lv_at hl 2 rfl) ?_
              obtain ⟨h9, hq⟩ := hq
              refine y_iald (t0 := 0) hx hb hK hw 12 (mo_15 a k3 u) rfl h9 dX8_joined_57 ?_
              have h10 := hq
              let r11 : Int32 := mp_M_goesInto u (s4_ra u 12 x1) (s4_ra u 12 x2)
              refine call_vir (rest := []) ⟨hx, hb, hml, hown, htG⟩ nestW_ok hK hN hA (mc_M_goesInto l D a k3 u (s4_ra u 12 x1) (s4_ra u 12 x2) h10) (cwV 2 htG (tb_V tb_659 tb_661 tb_13 tb_28 tb_662) rfl rfl rfl (by decide +kernel) ⟨Nat.le_of_ble_eq_true rfl, Nat.le_of_ble_eq_true rfl⟩) (ci := 8) rfl (mo_0 a k3 u) rfl hw rfl hl.1 rfl (Nat.le_of_ble_eq_true rfl) dX8_joined_58 ⟨Nat.zero_le _, Nat.zero_le _⟩ (fun H locs (hw : wd D vwCl (mC a k3) A s.heap u H locs) => ?_)
              refine lv_if_eq (tgt := 68) hx hb dX8_joined_61 (by decide) (fun c12 => ?_) (fun c12 => ?_)
              · have hP := (if_pos c12).symm.trans hP
                refine lv_iconst (v := 0) hx hb dX8_joined_68 (by decide) ?_
                exact ret_i hx hb hr hlocks hw dX8_joined_69 (congrArg (fun z => (z, u)) hP)
              · have hP := (if_neg c12).symm.trans hP
                refine lv_iconst (v := 1) hx hb dX8_joined_64 (by decide) ?_
                refine lv_goto (tgt := 69) hx hb dX8_joined_65 (by decide) ?_
                exact ret_i hx hb hr hlocks hw dX8_joined_69 (congrArg (fun z => (z, u)) hP)
            · have hP := (if_pos c7).symm.trans hP
              refine lv_iconst (v := 2) hx hb dX8_joined_41 (by decide) ?_
              refine lv_goto (tgt := 69) hx hb dX8_joined_42 (by decide) ?_
              exact ret_i hx hb hr hlocks hw dX8_joined_69 (congrArg (fun z => (z, u)) hP)
          · have hP := (if_neg c4).symm.trans hP
            refine lv_iconst (v := -1) hx hb dX8_joined_24 (by decide) ?_
            exact ret_i hx hb hr hlocks hw dX8_joined_25 (congrArg (fun z => (z, u)) hP)
  exact hgo _ rfl s.heap [] hw
