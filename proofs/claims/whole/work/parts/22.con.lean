theorem dX8_pieces_0 : decode cX8_pieces 0 = .ok (.iconst 0, 1) := by decide +kernel
theorem dX8_pieces_1 : decode cX8_pieces 1 = .ok (.istore_n 1, 1) := by decide +kernel
theorem dX8_pieces_2 : decode cX8_pieces 2 = .ok (.iload_n 1, 1) := by decide +kernel
theorem dX8_pieces_3 : decode cX8_pieces 3 = .ok (.aload_n 0, 1) := by decide +kernel
theorem dX8_pieces_4 : decode cX8_pieces 4 = .ok (.getfield 82, 3) := by decide +kernel
theorem dX8_pieces_7 : decode cX8_pieces 7 = .ok (.if_icmp .ge 16, 3) := by decide +kernel
theorem dX8_pieces_10 : decode cX8_pieces 10 = .ok (.aload_n 0, 1) := by decide +kernel
theorem dX8_pieces_11 : decode cX8_pieces 11 = .ok (.getfield 79, 3) := by decide +kernel
theorem dX8_pieces_14 : decode cX8_pieces 14 = .ok (.iload_n 1, 1) := by decide +kernel
theorem dX8_pieces_15 : decode cX8_pieces 15 = .ok (.iload_n 1, 1) := by decide +kernel
theorem dX8_pieces_16 : decode cX8_pieces 16 = .ok (.iastore, 1) := by decide +kernel
theorem dX8_pieces_17 : decode cX8_pieces 17 = .ok (.iinc 1 1, 3) := by decide +kernel
theorem dX8_pieces_20 : decode cX8_pieces 20 = .ok (.goto (-18), 3) := by decide +kernel
theorem dX8_pieces_23 : decode cX8_pieces 23 = .ok (.iconst 0, 1) := by decide +kernel
theorem dX8_pieces_24 : decode cX8_pieces 24 = .ok (.istore_n 1, 1) := by decide +kernel
theorem dX8_pieces_25 : decode cX8_pieces 25 = .ok (.iload_n 1, 1) := by decide +kernel
theorem dX8_pieces_26 : decode cX8_pieces 26 = .ok (.aload_n 0, 1) := by decide +kernel
theorem dX8_pieces_27 : decode cX8_pieces 27 = .ok (.getfield 82, 3) := by decide +kernel
theorem dX8_pieces_30 : decode cX8_pieces 30 = .ok (.if_icmp .ge 110, 3) := by decide +kernel
theorem dX8_pieces_33 : decode cX8_pieces 33 = .ok (.iconst 0, 1) := by decide +kernel
theorem dX8_pieces_34 : decode cX8_pieces 34 = .ok (.istore_n 2, 1) := by decide +kernel
theorem dX8_pieces_35 : decode cX8_pieces 35 = .ok (.iload_n 2, 1) := by decide +kernel
theorem dX8_pieces_36 : decode cX8_pieces 36 = .ok (.aload_n 0, 1) := by decide +kernel
theorem dX8_pieces_37 : decode cX8_pieces 37 = .ok (.getfield 85, 3) := by decide +kernel
theorem dX8_pieces_40 : decode cX8_pieces 40 = .ok (.if_icmp .ge 94, 3) := by decide +kernel
theorem dX8_pieces_43 : decode cX8_pieces 43 = .ok (.aload_n 0, 1) := by decide +kernel
theorem dX8_pieces_44 : decode cX8_pieces 44 = .ok (.getfield 79, 3) := by decide +kernel
theorem dX8_pieces_47 : decode cX8_pieces 47 = .ok (.aload_n 0, 1) := by decide +kernel
theorem dX8_pieces_48 : decode cX8_pieces 48 = .ok (.getfield 20, 3) := by decide +kernel
theorem dX8_pieces_51 : decode cX8_pieces 51 = .ok (.iload_n 2, 1) := by decide +kernel
theorem dX8_pieces_52 : decode cX8_pieces 52 = .ok (.iaload, 1) := by decide +kernel
theorem dX8_pieces_53 : decode cX8_pieces 53 = .ok (.iaload, 1) := by decide +kernel
theorem dX8_pieces_54 : decode cX8_pieces 54 = .ok (.aload_n 0, 1) := by decide +kernel
theorem dX8_pieces_55 : decode cX8_pieces 55 = .ok (.getfield 79, 3) := by decide +kernel
theorem dX8_pieces_58 : decode cX8_pieces 58 = .ok (.aload_n 0, 1) := by decide +kernel
theorem dX8_pieces_59 : decode cX8_pieces 59 = .ok (.getfield 23, 3) := by decide +kernel
theorem dX8_pieces_62 : decode cX8_pieces 62 = .ok (.iload_n 2, 1) := by decide +kernel
theorem dX8_pieces_63 : decode cX8_pieces 63 = .ok (.iaload, 1) := by decide +kernel
theorem dX8_pieces_64 : decode cX8_pieces 64 = .ok (.iaload, 1) := by decide +kernel
theorem dX8_pieces_65 : decode cX8_pieces 65 = .ok (.if_icmp .ge 17, 3) := by decide +kernel
theorem dX8_pieces_68 : decode cX8_pieces 68 = .ok (.aload_n 0, 1) := by decide +kernel
theorem dX8_pieces_69 : decode cX8_pieces 69 = .ok (.getfield 79, 3) := by decide +kernel
theorem dX8_pieces_72 : decode cX8_pieces 72 = .ok (.aload_n 0, 1) := by decide +kernel
theorem dX8_pieces_73 : decode cX8_pieces 73 = .ok (.getfield 20, 3) := by decide +kernel
theorem dX8_pieces_76 : decode cX8_pieces 76 = .ok (.iload_n 2, 1) := by decide +kernel
theorem dX8_pieces_77 : decode cX8_pieces 77 = .ok (.iaload, 1) := by decide +kernel
theorem dX8_pieces_78 : decode cX8_pieces 78 = .ok (.iaload, 1) := by decide +kernel
theorem dX8_pieces_79 : decode cX8_pieces 79 = .ok (.goto 14, 3) := by decide +kernel
theorem dX8_pieces_82 : decode cX8_pieces 82 = .ok (.aload_n 0, 1) := by decide +kernel
theorem dX8_pieces_83 : decode cX8_pieces 83 = .ok (.getfield 79, 3) := by decide +kernel
theorem dX8_pieces_86 : decode cX8_pieces 86 = .ok (.aload_n 0, 1) := by decide +kernel
theorem dX8_pieces_87 : decode cX8_pieces 87 = .ok (.getfield 23, 3) := by decide +kernel
theorem dX8_pieces_90 : decode cX8_pieces 90 = .ok (.iload_n 2, 1) := by decide +kernel
theorem dX8_pieces_91 : decode cX8_pieces 91 = .ok (.iaload, 1) := by decide +kernel
theorem dX8_pieces_92 : decode cX8_pieces 92 = .ok (.iaload, 1) := by decide +kernel
theorem dX8_pieces_93 : decode cX8_pieces 93 = .ok (.istore_n 3, 1) := by decide +kernel
theorem dX8_pieces_94 : decode cX8_pieces 94 = .ok (.aload_n 0, 1) := by decide +kernel
theorem dX8_pieces_95 : decode cX8_pieces 95 = .ok (.getfield 29, 3) := by decide +kernel
theorem dX8_pieces_98 : decode cX8_pieces 98 = .ok (.iload_n 2, 1) := by decide +kernel
theorem dX8_pieces_99 : decode cX8_pieces 99 = .ok (.iaload, 1) := by decide +kernel
theorem dX8_pieces_100 : decode cX8_pieces 100 = .ok (.iconst 3, 1) := by decide +kernel
theorem dX8_pieces_101 : decode cX8_pieces 101 = .ok (.if_icmp .ge 27, 3) := by decide +kernel
theorem dX8_pieces_104 : decode cX8_pieces 104 = .ok (.aload_n 0, 1) := by decide +kernel
theorem dX8_pieces_105 : decode cX8_pieces 105 = .ok (.getfield 79, 3) := by decide +kernel
theorem dX8_pieces_108 : decode cX8_pieces 108 = .ok (.aload_n 0, 1) := by decide +kernel
theorem dX8_pieces_109 : decode cX8_pieces 109 = .ok (.getfield 20, 3) := by decide +kernel
theorem dX8_pieces_112 : decode cX8_pieces 112 = .ok (.iload_n 2, 1) := by decide +kernel
theorem dX8_pieces_113 : decode cX8_pieces 113 = .ok (.iaload, 1) := by decide +kernel
theorem dX8_pieces_114 : decode cX8_pieces 114 = .ok (.iload_n 3, 1) := by decide +kernel
theorem dX8_pieces_115 : decode cX8_pieces 115 = .ok (.iastore, 1) := by decide +kernel
theorem dX8_pieces_116 : decode cX8_pieces 116 = .ok (.aload_n 0, 1) := by decide +kernel
theorem dX8_pieces_117 : decode cX8_pieces 117 = .ok (.getfield 79, 3) := by decide +kernel
theorem dX8_pieces_120 : decode cX8_pieces 120 = .ok (.aload_n 0, 1) := by decide +kernel
theorem dX8_pieces_121 : decode cX8_pieces 121 = .ok (.getfield 23, 3) := by decide +kernel
theorem dX8_pieces_124 : decode cX8_pieces 124 = .ok (.iload_n 2, 1) := by decide +kernel
theorem dX8_pieces_125 : decode cX8_pieces 125 = .ok (.iaload, 1) := by decide +kernel
theorem dX8_pieces_126 : decode cX8_pieces 126 = .ok (.iload_n 3, 1) := by decide +kernel
theorem dX8_pieces_127 : decode cX8_pieces 127 = .ok (.iastore, 1) := by decide +kernel
theorem dX8_pieces_128 : decode cX8_pieces 128 = .ok (.iinc 2 1, 3) := by decide +kernel
theorem dX8_pieces_131 : decode cX8_pieces 131 = .ok (.goto (-96), 3) := by decide +kernel
theorem dX8_pieces_134 : decode cX8_pieces 134 = .ok (.iinc 1 1, 3) := by decide +kernel
theorem dX8_pieces_137 : decode cX8_pieces 137 = .ok (.goto (-112), 3) := by decide +kernel
theorem dX8_pieces_140 : decode cX8_pieces 140 = .ok (.iconst 0, 1) := by decide +kernel
theorem dX8_pieces_141 : decode cX8_pieces 141 = .ok (.istore_n 1, 1) := by decide +kernel
theorem dX8_pieces_142 : decode cX8_pieces 142 = .ok (.iconst 0, 1) := by decide +kernel
theorem dX8_pieces_143 : decode cX8_pieces 143 = .ok (.istore_n 2, 1) := by decide +kernel
theorem dX8_pieces_144 : decode cX8_pieces 144 = .ok (.iload_n 2, 1) := by decide +kernel
theorem dX8_pieces_145 : decode cX8_pieces 145 = .ok (.aload_n 0, 1) := by decide +kernel
theorem dX8_pieces_146 : decode cX8_pieces 146 = .ok (.getfield 82, 3) := by decide +kernel
theorem dX8_pieces_149 : decode cX8_pieces 149 = .ok (.if_icmp .ge 27, 3) := by decide +kernel
theorem dX8_pieces_152 : decode cX8_pieces 152 = .ok (.iload_n 1, 1) := by decide +kernel
theorem dX8_pieces_153 : decode cX8_pieces 153 = .ok (.aload_n 0, 1) := by decide +kernel
theorem dX8_pieces_154 : decode cX8_pieces 154 = .ok (.getfield 79, 3) := by decide +kernel
theorem dX8_pieces_157 : decode cX8_pieces 157 = .ok (.iload_n 2, 1) := by decide +kernel
theorem dX8_pieces_158 : decode cX8_pieces 158 = .ok (.iaload, 1) := by decide +kernel
theorem dX8_pieces_159 : decode cX8_pieces 159 = .ok (.iload_n 2, 1) := by decide +kernel
theorem dX8_pieces_160 : decode cX8_pieces 160 = .ok (.if_icmp .ne 7, 3) := by decide +kernel
theorem dX8_pieces_163 : decode cX8_pieces 163 = .ok (.iconst 1, 1) := by decide +kernel
theorem dX8_pieces_164 : decode cX8_pieces 164 = .ok (.goto 4, 3) := by decide +kernel
theorem dX8_pieces_167 : decode cX8_pieces 167 = .ok (.iconst 0, 1) := by decide +kernel
theorem dX8_pieces_168 : decode cX8_pieces 168 = .ok (.iadd, 1) := by decide +kernel
theorem dX8_pieces_169 : decode cX8_pieces 169 = .ok (.istore_n 1, 1) := by decide +kernel
theorem dX8_pieces_170 : decode cX8_pieces 170 = .ok (.iinc 2 1, 3) := by decide +kernel
theorem dX8_pieces_173 : decode cX8_pieces 173 = .ok (.goto (-29), 3) := by decide +kernel
theorem dX8_pieces_176 : decode cX8_pieces 176 = .ok (.iload_n 1, 1) := by decide +kernel
theorem dX8_pieces_177 : decode cX8_pieces 177 = .ok (.ireturn, 1) := by decide +kernel
abbrev rm_mM_pieces : Room := { frames := 0, cells := 0, slots := 0, locals := 0 }
def mB_M_pieces_144 (K144 : S4 → Int32 → Int32 → (Int32 × S4)) (u : S4) (y1 : Int32) (y2 : Int32) : Int32 × S4 :=
  if (s4_i u 0) ≤ y2 then
    (y1, u)
  else
    if (s4_ra u 19 y2) = y2 then
      let v8 : Int32 := (y1 + (1 : Int32))
      let v9 : Int32 := (y2 + (1 : Int32))
      K144 u v8 v9
    else
      let v6 : Int32 := (y1 + (0 : Int32))
      let v7 : Int32 := (y2 + (1 : Int32))
      K144 u v6 v7
def mL_M_pieces_144 : Nat → S4 → Int32 → Int32 → (Int32 × S4)
  | 0 => fun u _ _ => (0, u)
  | n + 1 => mB_M_pieces_144 (mL_M_pieces_144 n)
def mBq_M_pieces_144 (Q144 : S4 → Int32 → Int32 → Prop) (u : S4) (y1 : Int32) (y2 : Int32) : Prop :=
  (¬ (s4_i u 0) ≤ y2 →
    vp_in y2 8 ∧
    (((s4_ra u 19 y2) = y2 →
      let v8 : Int32 := (y1 + (1 : Int32))
      let v9 : Int32 := (y2 + (1 : Int32))
      Q144 u v8 v9) ∧ (¬ (s4_ra u 19 y2) = y2 →
      let v6 : Int32 := (y1 + (0 : Int32))
      let v7 : Int32 := (y2 + (1 : Int32))
      Q144 u v6 v7)))
def mLq_M_pieces_144 : Nat → S4 → Int32 → Int32 → Prop
  | 0 => fun _ _ _ => False
  | n + 1 => mBq_M_pieces_144 (mLq_M_pieces_144 n)
set_option maxHeartbeats 4000000 in
set_option maxRecDepth 100000 in
theorem ms_M_pieces_144 (l : Launch) (D : va_G) (a : Nat → Nat) (k3 : K3) {p : Program} {e : Env} {s : State} {m : MethodId} {below : List Frame} {meth : Method} {c : Code} {A : Nat → Prop} (av : Array Value) (F : Fx p s m meth c av cX8_pieces 4 (some .int) yX8_pieces.cls (kX8_pieces :: tbG) D vwCl (ty3 k3) nestW A) (P : Int32 × S4) (K144 : S4 → Int32 → Int32 → (Int32 × S4)) (Q144 : S4 → Int32 → Int32 → Prop) (hK144 : ∀ (u : S4) (y1 : Int32) (y2 : Int32) (H : Heap) (locs : List Loc) (ls : Array Slot), Q144 u y1 y2 → K144 u y1 y2 = P → wd D vwCl (mC a k3) A s.heap u H locs → lv_has ls 4 [(0, .ref (a 0)), (1, .int y1), (2, .int y2)] → W p l e rm_mM_pieces s m av below meth c H locs 0 0 (QI below D vwCl (mC a k3) A av s P) (F0 m 144 ls [])) : ∀ (u : S4) (y1 : Int32) (y2 : Int32) (H : Heap) (locs : List Loc) (ls : Array Slot), mBq_M_pieces_144 Q144 u y1 y2 → mB_M_pieces_144 K144 u y1 y2 = P → wd D vwCl (mC a k3) A s.heap u H locs → lv_has ls 4 [(0, .ref (a 0)), (1, .int y1), (2, .int y2)] → W p l e rm_mM_pieces s m av below meth c H locs 0 0 (QI below D vwCl (mC a k3) A av s P) (F0 m 144 ls []) := by
  obtain ⟨hx, hb, hr, hml, hown, hts, hK, hN, hlocks, hA⟩ := id F
  have hown : s.vm.findClass RX8 = some m.cls := hown
  have htG : ∀ w ∈ tbG, w.before av s = true := fun w h => hts w (List.mem_cons_of_mem _ h)
  have f_82 := htG _ tb_514
  have f_79 := htG _ tb_541
  intro u y1 y2 H locs ls hq hP hw hl
  refine lv_iload_n hx hb dX8_pieces_144 rfl (lv_at hl 2 rfl) ?_
  refine lv_aload_n hx hb dX8_pieces_145 rfl (lv_at hl 0 rfl) ?_
  refine va_get (D := D) (ci := 8) (v := .int (s4_i u 0)) (C := RX8) (T := TX8) (N := 28) hx hb htG in_8 hown hK hw.1 0 (mo_0 a k3 u) rfl 0 (by decide) f_82 (fun _ h9 => h9) rfl dX8_pieces_146 ?_
  refine lv_icmp_ge (tgt := 176) hx hb dX8_pieces_149 (by decide) (fun c3 => ?_) (fun c3 => ?_)
  · have hP := (if_pos c3).symm.trans hP
    refine lv_iload_n hx hb dX8_pieces_176 rfl (lv_at hl 1 rfl) ?_
    exact ret_i hx hb hr hlocks hw dX8_pieces_177 hP
  · have hP := (if_neg c3).symm.trans hP
    have hq := hq c3
    refine lv_iload_n hx hb dX8_pieces_152 rfl (lv_at hl 1 rfl) ?_
    refine lv_aload_n hx hb dX8_pieces_153 rfl (lv_at hl 0 rfl) ?_
    refine va_get (D := D) (ci := 8) (v := .ref (a 22)) (C := RX8) (T := TX8) (N := 28) hx hb htG in_8 hown hK hw.1 0 (mo_0 a k3 u) rfl 27 (by decide) f_79 (fun _ h9 => h9) rfl dX8_pieces_154 ?_
    refine lv_iload_n hx hb dX8_pieces_157 rfl (lv_at hl 2 rfl) ?_
    obtain ⟨h4, hq⟩ := hq
    refine y_iald (t0 := 0) hx hb hK hw 19 (mo_22 a k3 u) rfl h4 dX8_pieces_158 ?_
    refine lv_iload_n hx hb dX8_pieces_159 rfl (lv_at hl 2 rfl) ?_
    refine lv_icmp_ne (tgt := 167) hx hb dX8_pieces_160 (by decide) (fun c5 => ?_) (fun c5 => ?_)
    · have hP := (if_neg c5).symm.trans hP
      have hq := hq.2 c5
      refine lv_iconst (v := 0) hx hb dX8_pieces_167 (by decide) ?_
      refine lv_iadd hx hb dX8_pieces_168 ?_
      let v6 : Int32 := (y1 + (0 : Int32))
      refine lv_istore_n (lv' := [(1, .int v6), (0, .ref (a 0)), (2, .int y2)]) hx hb dX8_pieces_169 rfl hl (by decide) rfl (fun ls hl => ?_)
      let v7 : Int32 := (y2 + (1 : Int32))
      refine lv_iinc (v := v7) (lv' := [(2, .int v7), (1, .int v6), (0, .ref (a 0))]) hx hb dX8_pieces_170 hl (k := 2) rfl rfl (by decide) rfl (fun ls hl => ?_)
      refine lv_goto (tgt := 144) hx hb dX8_pieces_173 (by decide) ?_
      exact hK144 u (v6) (v7) H locs ls hq hP hw (lv_sub hl [2, 1, 0] rfl)
    · have hP := (if_pos c5).symm.trans hP
      have hq := hq.1 c5
      refine lv_iconst (v := 1) hx hb dX8_pieces_163 (by decide) ?_
      refine lv_goto (tgt := 168) hx hb dX8_pieces_164 (by decide) ?_
      refine lv_iadd hx hb dX8_pieces_168 ?_
      let v8 : Int32 := (y1 + (1 : Int32))
      refine lv_istore_n (lv' := [(1, .int v8), (0, .ref (a 0)), (2, .int y2)]) hx hb dX8_pieces_169 rfl hl (by decide) rfl (fun ls hl => ?_)
      let v9 : Int32 := (y2 + (1 : Int32))
      refine lv_iinc (v := v9) (lv' := [(2, .int v9), (1, .int v8), (0, .ref (a 0))]) hx hb dX8_pieces_170 hl (k := 2) rfl rfl (by decide) rfl (fun ls hl => ?_)
      refine lv_goto (tgt := 144) hx hb dX8_pieces_173 (by decide) ?_
      exact hK144 u (v8) (v9) H locs ls hq hP hw (lv_sub hl [2, 1, 0] rfl)
set_option maxHeartbeats 4000000 in
set_option maxRecDepth 100000 in
theorem mw_M_pieces_144 (l : Launch) (D : va_G) (a : Nat → Nat) (k3 : K3) {p : Program} {e : Env} {s : State} {m : MethodId} {below : List Frame} {meth : Method} {c : Code} {A : Nat → Prop} (av : Array Value) (F : Fx p s m meth c av cX8_pieces 4 (some .int) yX8_pieces.cls (kX8_pieces :: tbG) D vwCl (ty3 k3) nestW A) (P : Int32 × S4) : ∀ (n : Nat), ∀ (u : S4) (y1 : Int32) (y2 : Int32) (H : Heap) (locs : List Loc) (ls : Array Slot), mLq_M_pieces_144 n u y1 y2 → mL_M_pieces_144 n u y1 y2 = P → wd D vwCl (mC a k3) A s.heap u H locs → lv_has ls 4 [(0, .ref (a 0)), (1, .int y1), (2, .int y2)] → W p l e rm_mM_pieces s m av below meth c H locs 0 0 (QI below D vwCl (mC a k3) A av s P) (F0 m 144 ls []) := by
  intro n
  induction n with
  | zero => intro u y1 y2 H locs ls hq hP hw hl; exact hq.elim
  | succ n ih => intro u y1 y2 H locs ls hq hP hw hl; exact ms_M_pieces_144 l D a k3 av F P (mL_M_pieces_144 n) (mLq_M_pieces_144 n) ih u y1 y2 H locs ls hq hP hw hl
def mB_M_pieces_35 (K25 : S4 → Int32 → (Int32 × S4)) (K35 : S4 → Int32 → Int32 → (Int32 × S4)) (u : S4) (y1 : Int32) (y2 : Int32) : Int32 × S4 :=
  if (s4_i u 1) ≤ y2 then
    let v11 : Int32 := (y1 + (1 : Int32))
    K25 u v11
  else
    if (s4_ra u 19 (s4_ra u 4 y2)) ≤ (s4_ra u 19 (s4_ra u 3 y2)) then
      let v19 : Int32 := (s4_ra u 19 (s4_ra u 4 y2))
      if (3 : Int32) ≤ (s4_ra u 6 y2) then
        let v22 : Int32 := (y2 + (1 : Int32))
        K35 u y1 v22
      else
        let u25 : S4 := s4_wa u 19 (s4_ra u 3 y2) v19
        let u28 : S4 := s4_wa u25 19 (s4_ra u25 4 y2) v19
        let v29 : Int32 := (y2 + (1 : Int32))
        K35 u28 y1 v29
    else
      let v32 : Int32 := (s4_ra u 19 (s4_ra u 3 y2))
      if (3 : Int32) ≤ (s4_ra u 6 y2) then
        let v35 : Int32 := (y2 + (1 : Int32))
        K35 u y1 v35
      else
        let u38 : S4 := s4_wa u 19 (s4_ra u 3 y2) v32
        let u41 : S4 := s4_wa u38 19 (s4_ra u38 4 y2) v32
        let v42 : Int32 := (y2 + (1 : Int32))
        K35 u41 y1 v42
def mL_M_pieces_35 (K25 : S4 → Int32 → (Int32 × S4)) : Nat → S4 → Int32 → Int32 → (Int32 × S4)
  | 0 => fun u _ _ => (0, u)
  | n + 1 => mB_M_pieces_35 K25 (mL_M_pieces_35 K25 n)
def mBq_M_pieces_35 (Q25 : S4 → Int32 → Prop) (Q35 : S4 → Int32 → Int32 → Prop) (u : S4) (y1 : Int32) (y2 : Int32) : Prop :=
  (((s4_i u 1) ≤ y2 →
    let v11 : Int32 := (y1 + (1 : Int32))
    Q25 u v11) ∧ (¬ (s4_i u 1) ≤ y2 →
    vp_in y2 12 ∧
    vp_in (s4_ra u 3 y2) 8 ∧
    vp_in y2 12 ∧
    vp_in (s4_ra u 4 y2) 8 ∧
    (((s4_ra u 19 (s4_ra u 4 y2)) ≤ (s4_ra u 19 (s4_ra u 3 y2)) →
      vp_in y2 12 ∧
      vp_in (s4_ra u 4 y2) 8 ∧
      let v19 : Int32 := (s4_ra u 19 (s4_ra u 4 y2))
      vp_in y2 12 ∧
      (((3 : Int32) ≤ (s4_ra u 6 y2) →
        let v22 : Int32 := (y2 + (1 : Int32))
        Q35 u y1 v22) ∧ (¬ (3 : Int32) ≤ (s4_ra u 6 y2) →
        vp_in y2 12 ∧
        vp_in (s4_ra u 3 y2) 8 ∧
        let u25 : S4 := s4_wa u 19 (s4_ra u 3 y2) v19
        vp_in y2 12 ∧
        vp_in (s4_ra u25 4 y2) 8 ∧
        let u28 : S4 := s4_wa u25 19 (s4_ra u25 4 y2) v19
        let v29 : Int32 := (y2 + (1 : Int32))
        Q35 u28 y1 v29))) ∧ (¬ (s4_ra u 19 (s4_ra u 4 y2)) ≤ (s4_ra u 19 (s4_ra u 3 y2)) →
      vp_in y2 12 ∧
      vp_in (s4_ra u 3 y2) 8 ∧
      let v32 : Int32 := (s4_ra u 19 (s4_ra u 3 y2))
      vp_in y2 12 ∧
      (((3 : Int32) ≤ (s4_ra u 6 y2) →
        let v35 : Int32 := (y2 + (1 : Int32))
        Q35 u y1 v35) ∧ (¬ (3 : Int32) ≤ (s4_ra u 6 y2) →
        vp_in y2 12 ∧
        vp_in (s4_ra u 3 y2) 8 ∧
        let u38 : S4 := s4_wa u 19 (s4_ra u 3 y2) v32
        vp_in y2 12 ∧
        vp_in (s4_ra u38 4 y2) 8 ∧
        let u41 : S4 := s4_wa u38 19 (s4_ra u38 4 y2) v32
        let v42 : Int32 := (y2 + (1 : Int32))
        Q35 u41 y1 v42))))))
def mLq_M_pieces_35 (Q25 : S4 → Int32 → Prop) : Nat → S4 → Int32 → Int32 → Prop
  | 0 => fun _ _ _ => False
  | n + 1 => mBq_M_pieces_35 Q25 (mLq_M_pieces_35 Q25 n)
set_option maxHeartbeats 4000000 in
set_option maxRecDepth 100000 in
theorem ms_M_pieces_35 (l : Launch) (D : va_G) (a : Nat → Nat) (k3 : K3) {p : Program} {e : Env} {s : State} {m : MethodId} {below : List Frame} {meth : Method} {c : Code} {A : Nat → Prop} (av : Array Value) (F : Fx p s m meth c av cX8_pieces 4 (some .int) yX8_pieces.cls (kX8_pieces :: tbG) D vwCl (ty3 k3) nestW A) (P : Int32 × S4) (K25 : S4 → Int32 → (Int32 × S4)) (Q25 : S4 → Int32 → Prop) (hK25 : ∀ (u : S4) (y1 : Int32) (H : Heap) (locs : List Loc) (ls : Array Slot), Q25 u y1 → K25 u y1 = P → wd D vwCl (mC a k3) A s.heap u H locs → lv_has ls 4 [(0, .ref (a 0)), (1, .int y1)] → W p l e rm_mM_pieces s m av below meth c H locs 0 0 (QI below D vwCl (mC a k3) A av s P) (F0 m 25 ls [])) (K35 : S4 → Int32 → Int32 → (Int32 × S4)) (Q35 : S4 → Int32 → Int32 → Prop) (hK35 : ∀ (u : S4) (y1 : Int32) (y2 : Int32) (H : Heap) (locs : List Loc) (ls : Array Slot), Q35 u y1 y2 → K35 u y1 y2 = P → wd D vwCl (mC a k3) A s.heap u H locs → lv_has ls 4 [(0, .ref (a 0)), (1, .int y1), (2, .int y2)] → W p l e rm_mM_pieces s m av below meth c H locs 0 0 (QI below D vwCl (mC a k3) A av s P) (F0 m 35 ls [])) : ∀ (u : S4) (y1 : Int32) (y2 : Int32) (H : Heap) (locs : List Loc) (ls : Array Slot), mBq_M_pieces_35 Q25 Q35 u y1 y2 → mB_M_pieces_35 K25 K35 u y1 y2 = P → wd D vwCl (mC a k3) A s.heap u H locs → lv_has ls 4 [(0, .ref (a 0)), (1, .int y1), (2, .int y2)] → W p l e rm_mM_pieces s m av below meth c H locs 0 0 (QI below D vwCl (mC a k3) A av s P) (F0 m 35 ls []) := by
  obtain ⟨hx, hb, hr, hml, hown, hts, hK, hN, hlocks, hA⟩ := id F
  have hown : s.vm.findClass RX8 = some m.cls := hown
  have htG : ∀ w ∈ tbG, w.before av s = true := fun w h => hts w (List.mem_cons_of_mem _ h)
  have f_85 := htG _ tb_518
  have f_79 := htG _ tb_541
  have f_20 := htG _ tb_519
  have f_23 := htG _ tb_520
  have f_29 := htG _ tb_522
  intro u y1 y2 H locs ls hq hP hw hl
  refine lv_iload_n hx hb dX8_pieces_35 rfl (lv_at hl 2 rfl) ?_
  refine lv_aload_n hx hb dX8_pieces_36 rfl (lv_at hl 0 rfl) ?_
  refine va_get (D := D) (ci := 8) (v := .int (s4_i u 1)) (C := RX8) (T := TX8) (N := 28) hx hb htG in_8 hown hK hw.1 0 (mo_0 a k3 u) rfl 4 (by decide) f_85 (fun _ h9 => h9) rfl dX8_pieces_37 ?_
  refine lv_icmp_ge (tgt := 134) hx hb dX8_pieces_40 (by decide) (fun c10 => ?_) (fun c10 => ?_)
  · have hP := (if_pos c10).symm.trans hP
    have hq := hq.1 c10
    let v11 : Int32 := (y1 + (1 : Int32))
    refine lv_iinc (v := v11) (lv' := [(1, .int v11), (0, .ref (a 0)), (2, .int y2)]) hx hb dX8_pieces_134 hl (k := 1) rfl rfl (by decide) rfl (fun ls hl => ?_)
    refine lv_goto (tgt := 25) hx hb dX8_pieces_137 (by decide) ?_
    exact hK25 u (v11) H locs ls hq hP hw (lv_sub hl [1, 0] rfl)
  · have hP := (if_neg c10).symm.trans hP
    have hq := hq.2 c10
    refine lv_aload_n hx hb dX8_pieces_43 rfl (lv_at hl 0 rfl) ?_
    refine va_get (D := D) (ci := 8) (v := .ref (a 22)) (C := RX8) (T := TX8) (N := 28) hx hb htG in_8 hown hK hw.1 0 (mo_0 a k3 u) rfl 27 (by decide) f_79 (fun _ h9 => h9) rfl dX8_pieces_44 ?_
    refine lv_aload_n hx hb dX8_pieces_47 rfl (lv_at hl 0 rfl) ?_
    refine va_get (D := D) (ci := 8) (v := .ref (a 4)) (C := RX8) (T := TX8) (N := 28) hx hb htG in_8 hown hK hw.1 0 (mo_0 a k3 u) rfl 5 (by decide) f_20 (fun _ h9 => h9) rfl dX8_pieces_48 ?_
    refine lv_iload_n hx hb dX8_pieces_51 rfl (lv_at hl 2 rfl) ?_
    obtain ⟨h12, hq⟩ := hq
    refine y_iald (t0 := 0) hx hb hK hw 3 (mo_4 a k3 u) rfl h12 dX8_pieces_52 ?_
    obtain ⟨h13, hq⟩ := hq
    refine y_iald (t0 := 0) hx hb hK hw 19 (mo_22 a k3 u) rfl h13 dX8_pieces_53 ?_
    refine lv_aload_n hx hb dX8_pieces_54 rfl (lv_at hl 0 rfl) ?_
    refine va_get (D := D) (ci := 8) (v := .ref (a 22)) (C := RX8) (T := TX8) (N := 28) hx hb htG in_8 hown hK hw.1 0 (mo_0 a k3 u) rfl 27 (by decide) f_79 (fun _ h9 => h9) rfl dX8_pieces_55 ?_
    refine lv_aload_n hx hb dX8_pieces_58 rfl (lv_at hl 0 rfl) ?_
    refine va_get (D := D) (ci := 8) (v := .ref (a 5)) (C := RX8) (T := TX8) (N := 28) hx hb htG in_8 hown hK hw.1 0 (mo_0 a k3 u) rfl 6 (by decide) f_23 (fun _ h9 => h9) rfl dX8_pieces_59 ?_
    refine lv_iload_n hx hb dX8_pieces_62 rfl (lv_at hl 2 rfl) ?_
    obtain ⟨h14, hq⟩ := hq
    refine y_iald (t0 := 0) hx hb hK hw 4 (mo_5 a k3 u) rfl h14 dX8_pieces_63 ?_
    obtain ⟨h15, hq⟩ := hq
    refine y_iald (t0 := 0) hx hb hK hw 19 (mo_22 a k3 u) rfl h15 dX8_pieces_64 ?_
    refine lv_icmp_ge (tgt := 82) hx hb dX8_pieces_65 (by decide) (fun c16 => ?_) (fun c16 => ?_)
    · have hP := (if_pos c16).symm.trans hP
      have hq := hq.1 c16
      refine lv_aload_n hx hb dX8_pieces_82 rfl (lv_at hl 0 rfl) ?_
      refine va_get (D := D) (ci := 8) (v := .ref (a 22)) (C := RX8) (T := TX8) (N := 28) hx hb htG in_8 hown hK hw.1 0 (mo_0 a k3 u) rfl 27 (by decide) f_79 (fun _ h9 => h9) rfl dX8_pieces_83 ?_
      refine lv_aload_n hx hb dX8_pieces_86 rfl (lv_at hl 0 rfl) ?_
      refine va_get (D := D) (ci := 8) (v := .ref (a 5)) (C := RX8) (T := TX8) (N := 28) hx hb htG in_8 hown hK hw.1 0 (mo_0 a k3 u) rfl 6 (by decide) f_23 (fun _ h9 => h9) rfl dX8_pieces_87 ?_
      refine lv_iload_n hx hb dX8_pieces_90 rfl (lv_at hl 2 rfl) ?_
      obtain ⟨h17, hq⟩ := hq
      refine y_iald (t0 := 0) hx hb hK hw 4 (mo_5 a k3 u) rfl h17 dX8_pieces_91 ?_
      obtain ⟨h18, hq⟩ := hq
      refine y_iald (t0 := 0) hx hb hK hw 19 (mo_22 a k3 u) rfl h18 dX8_pieces_92 ?_
      let v19 : Int32 := (s4_ra u 19 (s4_ra u 4 y2))
      refine lv_istore_n (lv' := [(3, .int v19), (0, .ref (a 0)), (1, .int y1), (2, .int y2)]) hx hb dX8_pieces_93 rfl hl (by decide) rfl (fun ls hl => ?_)
      refine lv_aload_n hx hb dX8_pieces_94 rfl (lv_at hl 1 rfl) ?_
      refine va_get (D := D) (ci := 8) (v := .ref (a 7)) (C := RX8) (T := TX8) (N := 28) hx hb htG in_8 hown hK hw.1 0 (mo_0 a k3 u) rfl 8 (by decide) f_29 (fun _ h9 => h9) rfl dX8_pieces_95 ?_
      refine lv_iload_n hx hb dX8_pieces_98 rfl (lv_at hl 3 rfl) ?_
      obtain ⟨h20, hq⟩ := hq
      refine y_iald (t0 := 0) hx hb hK hw 6 (mo_7 a k3 u) rfl h20 dX8_pieces_99 ?_
      refine lv_iconst (v := 3) hx hb dX8_pieces_100 (by decide) ?_
      refine lv_icmp_ge (tgt := 128) hx hb dX8_pieces_101 (by decide) (fun c21 => ?_) (fun c21 => ?_)
      · have hP := (if_pos c21).symm.trans hP
        have hq := hq.1 c21
        let v22 : Int32 := (y2 + (1 : Int32))
        refine lv_iinc (v := v22) (lv' := [(2, .int v22), (3, .int v19), (0, .ref (a 0)), (1, .int y1)]) hx hb dX8_pieces_128 hl (k := 3) rfl rfl (by decide) rfl (fun ls hl => ?_)
        refine lv_goto (tgt := 35) hx hb dX8_pieces_131 (by decide) ?_
        exact hK35 u (y1) (v22) H locs ls hq hP hw (lv_sub hl [2, 3, 0] rfl)
      · have hP := (if_neg c21).symm.trans hP
        have hq := hq.2 c21
        refine lv_aload_n hx hb dX8_pieces_104 rfl (lv_at hl 1 rfl) ?_
        refine va_get (D := D) (ci := 8) (v := .ref (a 22)) (C := RX8) (T := TX8) (N := 28) hx hb htG in_8 hown hK hw.1 0 (mo_0 a k3 u) rfl 27 (by decide) f_79 (fun _ h9 => h9) rfl dX8_pieces_105 ?_
        refine lv_aload_n hx hb dX8_pieces_108 rfl (lv_at hl 1 rfl) ?_
        refine va_get (D := D) (ci := 8) (v := .ref (a 4)) (C := RX8) (T := TX8) (N := 28) hx hb htG in_8 hown hK hw.1 0 (mo_0 a k3 u) rfl 5 (by decide) f_20 (fun _ h9 => h9) rfl dX8_pieces_109 ?_
        refine lv_iload_n hx hb dX8_pieces_112 rfl (lv_at hl 3 rfl) ?_
        obtain ⟨h23, hq⟩ := hq
        refine y_iald (t0 := 0) hx hb hK hw 3 (mo_4 a k3 u) rfl h23 dX8_pieces_113 ?_
        refine lv_iload_n hx hb dX8_pieces_114 rfl (lv_at hl 0 rfl) ?_
        obtain ⟨h24, hq⟩ := hq
        let u25 : S4 := s4_wa u 19 (s4_ra u 3 y2) v19
        refine y_iast (t0 := 0) hx hb hK hw 19 (mo_22 a k3 u) (mq_22 a k3 u) rfl h24 dX8_pieces_115 (fun H locs (hw : wd D vwCl (mC a k3) A s.heap u25 H locs) => ?_)
        refine lv_aload_n hx hb dX8_pieces_116 rfl (lv_at hl 1 rfl) ?_
        refine va_get (D := D) (ci := 8) (v := .ref (a 22)) (C := RX8) (T := TX8) (N := 28) hx hb htG in_8 hown hK hw.1 0 (mo_0 a k3 u25) rfl 27 (by decide) f_79 (fun _ h9 => h9) rfl dX8_pieces_117 ?_
        refine lv_aload_n hx hb dX8_pieces_120 rfl (lv_at hl 1 rfl) ?_
        refine va_get (D := D) (ci := 8) (v := .ref (a 5)) (C := RX8) (T := TX8) (N := 28) hx hb htG in_8 hown hK hw.1 0 (mo_0 a k3 u25) rfl 6 (by decide) f_23 (fun _ h9 => h9) rfl dX8_pieces_121 ?_
        refine lv_iload_n hx hb dX8_pieces_124 rfl (lv_at hl 3 rfl) ?_
        obtain ⟨h26, hq⟩ := hq
        refine y_iald (t0 := 0) hx hb hK hw 4 (mo_5 a k3 u25) rfl h26 dX8_pieces_125 ?_
        refine lv_iload_n hx hb dX8_pieces_126 rfl (lv_at hl 0 rfl) ?_
        obtain ⟨h27, hq⟩ := hq
        let u28 : S4 := s4_wa u25 19 (s4_ra u25 4 y2) v19
        refine y_iast (t0 := 0) hx hb hK hw 19 (mo_22 a k3 u25) (mq_22 a k3 u25) rfl h27 dX8_pieces_127 (fun H locs (hw : wd D vwCl (mC a k3) A s.heap u28 H locs) => ?_)
        let v29 : Int32 := (y2 + (1 : Int32))
        refine lv_iinc (v := v29) (lv' := [(2, .int v29), (3, .int v19), (0, .ref (a 0)), (1, .int y1)]) hx hb dX8_pieces_128 hl (k := 3) rfl rfl (by decide) rfl (fun ls hl => ?_)
        refine lv_goto (tgt := 35) hx hb dX8_pieces_131 (by decide) ?_
        exact hK35 u28 (y1) (v29) H locs ls hq hP hw (lv_sub hl [2, 3, 0] rfl)
    · have hP := (if_neg c16).symm.trans hP
      have hq := hq.2 c16
      refine lv_aload_n hx hb dX8_pieces_68 rfl (lv_at hl 0 rfl) ?_
      refine va_get (D := D) (ci := 8) (v := .ref (a 22)) (C := RX8) (T := TX8) (N := 28) hx hb htG in_8 hown hK hw.1 0 (mo_0 a k3 u) rfl 27 (by decide) f_79 (fun _ h9 => h9) rfl dX8_pieces_69 ?_
      refine lv_aload_n hx hb dX8_pieces_72 rfl (lv_at hl 0 rfl) ?_
      refine va_get (D := D) (ci := 8) (v := .ref (a 4)) (C := RX8) (T := TX8) (N := 28) hx hb htG in_8 hown hK hw.1 0 (mo_0 a k3 u) rfl 5 (by decide) f_20 (fun _ h9 => h9) rfl dX8_pieces_73 ?_
      refine lv_iload_n hx hb dX8_pieces_76 rfl (lv_at hl 2 rfl) ?_
      obtain ⟨h30, hq⟩ := hq
      refine y_iald (t0 := 0) hx hb hK hw 3 (mo_4 a k3 u) rfl h30 dX8_pieces_77 ?_
      obtain ⟨h31, hq⟩ := hq
      refine y_iald (t0 := 0) hx hb hK hw 19 (mo_22 a k3 u) rfl h31 dX8_pieces_78 ?_
      refine lv_goto (tgt := 93) hx hb dX8_pieces_79 (by decide) ?_
      let v32 : Int32 := (s4_ra u 19 (s4_ra u 3 y2))
      refine lv_istore_n (lv' := [(3, .int v32), (0, .ref (a 0)), (1, .int y1), (2, .int y2)]) hx hb dX8_pieces_93 rfl hl (by decide) rfl (fun ls hl => ?_)
      refine lv_aload_n hx hb dX8_pieces_94 rfl (lv_at hl 1 rfl) ?_
      refine va_get (D := D) (ci := 8) (v := .ref (a 7)) (C := RX8) (T := TX8) (N := 28) hx hb htG in_8 hown hK hw.1 0 (mo_0 a k3 u) rfl 8 (by decide) f_29 (fun _ h9 => h9) rfl dX8_pieces_95 ?_
      refine lv_iload_n hx hb dX8_pieces_98 rfl (lv_at hl 3 rfl) ?_
      obtain ⟨h33, hq⟩ := hq
      refine y_iald (t0 := 0) hx hb hK hw 6 (mo_7 a k3 u) rfl h33 dX8_pieces_99 ?_
      refine lv_iconst (v := 3) hx hb dX8_pieces_100 (by decide) ?_
      refine lv_icmp_ge (tgt := 128) hx hb dX8_pieces_101 (by decide) (fun c34 => ?_) (fun c34 => ?_)
      · have hP := (if_pos c34).symm.trans hP
        have hq := hq.1 c34
        let v35 : Int32 := (y2 + (1 : Int32))
        refine lv_iinc (v := v35) (lv' := [(2, .int v35), (3, .int v32), (0, .ref (a 0)), (1, .int y1)]) hx hb dX8_pieces_128 hl (k := 3) rfl rfl (by decide) rfl (fun ls hl => ?_)
        refine lv_goto (tgt := 35) hx hb dX8_pieces_131 (by decide) ?_
        exact hK35 u (y1) (v35) H locs ls hq hP hw (lv_sub hl [2, 3, 0] rfl)
      · have hP := (if_neg c34).symm.trans hP
        have hq := hq.2 c34
        refine lv_aload_n hx hb dX8_pieces_104 rfl (lv_at hl 1 rfl) ?_
        refine va_get (D := D) (ci := 8) (v := .ref (a 22)) (C := RX8) (T := TX8) (N := 28) hx hb htG in_8 hown hK hw.1 0 (mo_0 a k3 u) rfl 27 (by decide) f_79 (fun _ h9 => h9) rfl dX8_pieces_105 ?_
        refine lv_aload_n hx hb dX8_pieces_108 rfl (lv_at hl 1 rfl) ?_
        refine va_get (D := D) (ci := 8) (v := .ref (a 4)) (C := RX8) (T := TX8) (N := 28) hx hb htG in_8 hown hK hw.1 0 (mo_0 a k3 u) rfl 5 (by decide) f_20 (fun _ h9 => h9) rfl dX8_pieces_109 ?_
        refine lv_iload_n hx hb dX8_pieces_112 rfl (lv_at hl 3 rfl) ?_
        obtain ⟨h36, hq⟩ := hq
        refine y_iald (t0 := 0) hx hb hK hw 3 (mo_4 a k3 u) rfl h36 dX8_pieces_113 ?_
        refine lv_iload_n hx hb dX8_pieces_114 rfl (lv_at hl 0 rfl) ?_
        obtain ⟨h37, hq⟩ := hq
        let u38 : S4 := s4_wa u 19 (s4_ra u 3 y2) v32
        refine y_iast (t0 := 0) hx hb hK hw 19 (mo_22 a k3 u) (mq_22 a k3 u) rfl h37 dX8_pieces_115 (fun H locs (hw : wd D vwCl (mC a k3) A s.heap u38 H locs) => ?_)
        refine lv_aload_n hx hb dX8_pieces_116 rfl (lv_at hl 1 rfl) ?_
        refine va_get (D := D) (ci := 8) (v := .ref (a 22)) (C := RX8) (T := TX8) (N := 28) hx hb htG in_8 hown hK hw.1 0 (mo_0 a k3 u38) rfl 27 (by decide) f_79 (fun _ h9 => h9) rfl dX8_pieces_117 ?_
        refine lv_aload_n hx hb dX8_pieces_120 rfl (lv_at hl 1 rfl) ?_
        refine va_get (D := D) (ci := 8) (v := .ref (a 5)) (C := RX8) (T := TX8) (N := 28) hx hb htG in_8 hown hK hw.1 0 (mo_0 a k3 u38) rfl 6 (by decide) f_23 (fun _ h9 => h9) rfl dX8_pieces_121 ?_
        refine lv_iload_n hx hb dX8_pieces_124 rfl (lv_at hl 3 rfl) ?_
        obtain ⟨h39, hq⟩ := hq
        refine y_iald (t0 := 0) hx hb hK hw 4 (mo_5 a k3 u38) rfl h39 dX8_pieces_125 ?_
        refine lv_iload_n hx hb dX8_pieces_126 rfl (lv_at hl 0 rfl) ?_
        obtain ⟨h40, hq⟩ := hq
        let u41 : S4 := s4_wa u38 19 (s4_ra u38 4 y2) v32
        refine y_iast (t0 := 0) hx hb hK hw 19 (mo_22 a k3 u38) (mq_22 a k3 u38) rfl h40 dX8_pieces_127 (fun H locs (hw : wd D vwCl (mC a k3) A s.heap u41 H locs) => ?_)
        let v42 : Int32 := (y2 + (1 : Int32))
        refine lv_iinc (v := v42) (lv' := [(2, .int v42), (3, .int v32), (0, .ref (a 0)), (1, .int y1)]) hx hb dX8_pieces_128 hl (k := 3) rfl rfl (by decide) rfl (fun ls hl => ?_)
        refine lv_goto (tgt := 35) hx hb dX8_pieces_131 (by decide) ?_
        exact hK35 u41 (y1) (v42) H locs ls hq hP hw (lv_sub hl [2, 3, 0] rfl)
set_option maxHeartbeats 4000000 in
set_option maxRecDepth 100000 in
theorem mw_M_pieces_35 (l : Launch) (D : va_G) (a : Nat → Nat) (k3 : K3) {p : Program} {e : Env} {s : State} {m : MethodId} {below : List Frame} {meth : Method} {c : Code} {A : Nat → Prop} (av : Array Value) (F : Fx p s m meth c av cX8_pieces 4 (some .int) yX8_pieces.cls (kX8_pieces :: tbG) D vwCl (ty3 k3) nestW A) (P : Int32 × S4) (K25 : S4 → Int32 → (Int32 × S4)) (Q25 : S4 → Int32 → Prop) (hK25 : ∀ (u : S4) (y1 : Int32) (H : Heap) (locs : List Loc) (ls : Array Slot), Q25 u y1 → K25 u y1 = P → wd D vwCl (mC a k3) A s.heap u H locs → lv_has ls 4 [(0, .ref (a 0)), (1, .int y1)] → W p l e rm_mM_pieces s m av below meth c H locs 0 0 (QI below D vwCl (mC a k3) A av s P) (F0 m 25 ls [])) : ∀ (n : Nat), ∀ (u : S4) (y1 : Int32) (y2 : Int32) (H : Heap) (locs : List Loc) (ls : Array Slot), mLq_M_pieces_35 Q25 n u y1 y2 → mL_M_pieces_35 K25 n u y1 y2 = P → wd D vwCl (mC a k3) A s.heap u H locs → lv_has ls 4 [(0, .ref (a 0)), (1, .int y1), (2, .int y2)] → W p l e rm_mM_pieces s m av below meth c H locs 0 0 (QI below D vwCl (mC a k3) A av s P) (F0 m 35 ls []) := by
  intro n
  induction n with
  | zero => intro u y1 y2 H locs ls hq hP hw hl; exact hq.elim
  | succ n ih => intro u y1 y2 H locs ls hq hP hw hl; exact ms_M_pieces_35 l D a k3 av F P K25 Q25 hK25 (mL_M_pieces_35 K25 n) (mLq_M_pieces_35 Q25 n) ih u y1 y2 H locs ls hq hP hw hl
def mB_M_pieces_25 (K25 : S4 → Int32 → (Int32 × S4)) (u : S4) (y1 : Int32) : Int32 × S4 :=
  if (s4_i u 0) ≤ y1 then
    mL_M_pieces_144 64 u (0 : Int32) (0 : Int32)
  else
    mL_M_pieces_35 K25 64 u y1 (0 : Int32)
def mL_M_pieces_25 : Nat → S4 → Int32 → (Int32 × S4)
  | 0 => fun u _ => (0, u)
  | n + 1 => mB_M_pieces_25 (mL_M_pieces_25 n)
def mBq_M_pieces_25 (Q25 : S4 → Int32 → Prop) (u : S4) (y1 : Int32) : Prop :=
  (((s4_i u 0) ≤ y1 →
    mLq_M_pieces_144 64 u (0 : Int32) (0 : Int32)) ∧ (¬ (s4_i u 0) ≤ y1 →
    mLq_M_pieces_35 Q25 64 u y1 (0 : Int32)))
def mLq_M_pieces_25 : Nat → S4 → Int32 → Prop
  | 0 => fun _ _ => False
  | n + 1 => mBq_M_pieces_25 (mLq_M_pieces_25 n)
set_option maxHeartbeats 4000000 in
set_option maxRecDepth 100000 in
theorem ms_M_pieces_25 (l : Launch) (D : va_G) (a : Nat → Nat) (k3 : K3) {p : Program} {e : Env} {s : State} {m : MethodId} {below : List Frame} {meth : Method} {c : Code} {A : Nat → Prop} (av : Array Value) (F : Fx p s m meth c av cX8_pieces 4 (some .int) yX8_pieces.cls (kX8_pieces :: tbG) D vwCl (ty3 k3) nestW A) (P : Int32 × S4) (K25 : S4 → Int32 → (Int32 × S4)) (Q25 : S4 → Int32 → Prop) (hK25 : ∀ (u : S4) (y1 : Int32) (H : Heap) (locs : List Loc) (ls : Array Slot), Q25 u y1 → K25 u y1 = P → wd D vwCl (mC a k3) A s.heap u H locs → lv_has ls 4 [(0, .ref (a 0)), (1, .int y1)] → W p l e rm_mM_pieces s m av below meth c H locs 0 0 (QI below D vwCl (mC a k3) A av s P) (F0 m 25 ls [])) : ∀ (u : S4) (y1 : Int32) (H : Heap) (locs : List Loc) (ls : Array Slot), mBq_M_pieces_25 Q25 u y1 → mB_M_pieces_25 K25 u y1 = P → wd D vwCl (mC a k3) A s.heap u H locs → lv_has ls 4 [(0, .ref (a 0)), (1, .int y1)] → W p l e rm_mM_pieces s m av below meth c H locs 0 0 (QI below D vwCl (mC a k3) A av s P) (F0 m 25 ls []) := by
  obtain ⟨hx, hb, hr, hml, hown, hts, hK, hN, hlocks, hA⟩ := id F
  have hown : s.vm.findClass RX8 = some m.cls := hown
  have htG : ∀ w ∈ tbG, w.before av s = true := fun w h => hts w (List.mem_cons_of_mem _ h)
  have f_82 := htG _ tb_514
  intro u y1 H locs ls hq hP hw hl
  refine lv_iload_n hx hb dX8_pieces_25 rfl (lv_at hl 1 rfl) ?_
  refine lv_aload_n hx hb dX8_pieces_26 rfl (lv_at hl 0 rfl) ?_
  refine va_get (D := D) (ci := 8) (v := .int (s4_i u 0)) (C := RX8) (T := TX8) (N := 28) hx hb htG in_8 hown hK hw.1 0 (mo_0 a k3 u) rfl 0 (by decide) f_82 (fun _ h9 => h9) rfl dX8_pieces_27 ?_
  refine lv_icmp_ge (tgt := 140) hx hb dX8_pieces_30 (by decide) (fun c2 => ?_) (fun c2 => ?_)
  · have hP := (if_pos c2).symm.trans hP
    have hq := hq.1 c2
    refine lv_iconst (v := 0) hx hb dX8_pieces_140 (by decide) ?_
    refine lv_istore_n (lv' := [(1, .int (0 : Int32)), (0, .ref (a 0))]) hx hb dX8_pieces_141 rfl hl (by decide) rfl (fun ls hl => ?_)
    refine lv_iconst (v := 0) hx hb dX8_pieces_142 (by decide) ?_
    refine lv_istore_n (lv' := [(2, .int (0 : Int32)), (1, .int (0 : Int32)), (0, .ref (a 0))]) hx hb dX8_pieces_143 rfl hl (by decide) rfl (fun ls hl => ?_)
    exact mw_M_pieces_144 l D a k3 av F P 64 u (0 : Int32) (0 : Int32) H locs ls hq hP hw (lv_sub hl [2, 1, 0] rfl)
  · have hP := (if_neg c2).symm.trans hP
    have hq := hq.2 c2
    refine lv_iconst (v := 0) hx hb dX8_pieces_33 (by decide) ?_
    refine lv_istore_n (lv' := [(2, .int (0 : Int32)), (0, .ref (a 0)), (1, .int y1)]) hx hb dX8_pieces_34 rfl hl (by decide) rfl (fun ls hl => ?_)
    exact mw_M_pieces_35 l D a k3 av F P K25 Q25 hK25 64 u y1 (0 : Int32) H locs ls hq hP hw (lv_sub hl [1, 2, 0] rfl)
set_option maxHeartbeats 4000000 in
set_option maxRecDepth 100000 in
theorem mw_M_pieces_25 (l : Launch) (D : va_G) (a : Nat → Nat) (k3 : K3) {p : Program} {e : Env} {s : State} {m : MethodId} {below : List Frame} {meth : Method} {c : Code} {A : Nat → Prop} (av : Array Value) (F : Fx p s m meth c av cX8_pieces 4 (some .int) yX8_pieces.cls (kX8_pieces :: tbG) D vwCl (ty3 k3) nestW A) (P : Int32 × S4) : ∀ (n : Nat), ∀ (u : S4) (y1 : Int32) (H : Heap) (locs : List Loc) (ls : Array Slot), mLq_M_pieces_25 n u y1 → mL_M_pieces_25 n u y1 = P → wd D vwCl (mC a k3) A s.heap u H locs → lv_has ls 4 [(0, .ref (a 0)), (1, .int y1)] → W p l e rm_mM_pieces s m av below meth c H locs 0 0 (QI below D vwCl (mC a k3) A av s P) (F0 m 25 ls []) := by
  intro n
  induction n with
  | zero => intro u y1 H locs ls hq hP hw hl; exact hq.elim
  | succ n ih => intro u y1 H locs ls hq hP hw hl; exact ms_M_pieces_25 l D a k3 av F P (mL_M_pieces_25 n) (mLq_M_pieces_25 n) ih u y1 H locs ls hq hP hw hl
def mB_M_pieces_2 (K2 : S4 → Int32 → (Int32 × S4)) (u : S4) (y1 : Int32) : Int32 × S4 :=
  if (s4_i u 0) ≤ y1 then
    mL_M_pieces_25 64 u (0 : Int32)
  else
    let u44 : S4 := s4_wa u 19 y1 y1
    let v45 : Int32 := (y1 + (1 : Int32))
    K2 u44 v45
def mL_M_pieces_2 : Nat → S4 → Int32 → (Int32 × S4)
  | 0 => fun u _ => (0, u)
  | n + 1 => mB_M_pieces_2 (mL_M_pieces_2 n)
def mBq_M_pieces_2 (Q2 : S4 → Int32 → Prop) (u : S4) (y1 : Int32) : Prop :=
  (((s4_i u 0) ≤ y1 →
    mLq_M_pieces_25 64 u (0 : Int32)) ∧ (¬ (s4_i u 0) ≤ y1 →
    vp_in y1 8 ∧
    let u44 : S4 := s4_wa u 19 y1 y1
    let v45 : Int32 := (y1 + (1 : Int32))
    Q2 u44 v45))
def mLq_M_pieces_2 : Nat → S4 → Int32 → Prop
  | 0 => fun _ _ => False
  | n + 1 => mBq_M_pieces_2 (mLq_M_pieces_2 n)
set_option maxHeartbeats 4000000 in
set_option maxRecDepth 100000 in
theorem ms_M_pieces_2 (l : Launch) (D : va_G) (a : Nat → Nat) (k3 : K3) {p : Program} {e : Env} {s : State} {m : MethodId} {below : List Frame} {meth : Method} {c : Code} {A : Nat → Prop} (av : Array Value) (F : Fx p s m meth c av cX8_pieces 4 (some .int) yX8_pieces.cls (kX8_pieces :: tbG) D vwCl (ty3 k3) nestW A) (P : Int32 × S4) (K2 : S4 → Int32 → (Int32 × S4)) (Q2 : S4 → Int32 → Prop) (hK2 : ∀ (u : S4) (y1 : Int32) (H : Heap) (locs : List Loc) (ls : Array Slot), Q2 u y1 → K2 u y1 = P → wd D vwCl (mC a k3) A s.heap u H locs → lv_has ls 4 [(0, .ref (a 0)), (1, .int y1)] → W p l e rm_mM_pieces s m av below meth c H locs 0 0 (QI below D vwCl (mC a k3) A av s P) (F0 m 2 ls [])) : ∀ (u : S4) (y1 : Int32) (H : Heap) (locs : List Loc) (ls : Array Slot), mBq_M_pieces_2 Q2 u y1 → mB_M_pieces_2 K2 u y1 = P → wd D vwCl (mC a k3) A s.heap u H locs → lv_has ls 4 [(0, .ref (a 0)), (1, .int y1)] → W p l e rm_mM_pieces s m av below meth c H locs 0 0 (QI below D vwCl (mC a k3) A av s P) (F0 m 2 ls []) := by
  obtain ⟨hx, hb, hr, hml, hown, hts, hK, hN, hlocks, hA⟩ := id F
  have hown : s.vm.findClass RX8 = some m.cls := hown
  have htG : ∀ w ∈ tbG, w.before av s = true := fun w h => hts w (List.mem_cons_of_mem _ h)
  have f_82 := htG _ tb_514
  have f_79 := htG _ tb_541
  intro u y1 H locs ls hq hP hw hl
  refine lv_iload_n hx hb dX8_pieces_2 rfl (lv_at hl 1 rfl) ?_
  refine lv_aload_n hx hb dX8_pieces_3 rfl (lv_at hl 0 rfl) ?_
  refine va_get (D := D) (ci := 8) (v := .int (s4_i u 0)) (C := RX8) (T := TX8) (N := 28) hx hb htG in_8 hown hK hw.1 0 (mo_0 a k3 u) rfl 0 (by decide) f_82 (fun _ h9 => h9) rfl dX8_pieces_4 ?_
  refine lv_icmp_ge (tgt := 23) hx hb dX8_pieces_7 (by decide) (fun c1 => ?_) (fun c1 => ?_)
  · have hP := (if_pos c1).symm.trans hP
    have hq := hq.1 c1
    refine lv_iconst (v := 0) hx hb dX8_pieces_23 (by decide) ?_
    refine lv_istore_n (lv' := [(1, .int (0 : Int32)), (0, .ref (a 0))]) hx hb dX8_pieces_24 rfl hl (by decide) rfl (fun ls hl => ?_)
    exact mw_M_pieces_25 l D a k3 av F P 64 u (0 : Int32) H locs ls hq hP hw (lv_sub hl [1, 0] rfl)
  · have hP := (if_neg c1).symm.trans hP
    have hq := hq.2 c1
    refine lv_aload_n hx hb dX8_pieces_10 rfl (lv_at hl 0 rfl) ?_
    refine va_get (D := D) (ci := 8) (v := .ref (a 22)) (C := RX8) (T := TX8) (N := 28) hx hb htG in_8 hown hK hw.1 0 (mo_0 a k3 u) rfl 27 (by decide) f_79 (fun _ h9 => h9) rfl dX8_pieces_11 ?_
    refine lv_iload_n hx hb dX8_pieces_14 rfl (lv_at hl 1 rfl) ?_
    refine lv_iload_n hx hb dX8_pieces_15 rfl (lv_at hl 1 rfl) ?_
    obtain ⟨h43, hq⟩ := hq
    let u44 : S4 := s4_wa u 19 y1 y1
    refine y_iast (t0 := 0) hx hb hK hw 19 (mo_22 a k3 u) (mq_22 a k3 u) rfl h43 dX8_pieces_16 (fun H locs (hw : wd D vwCl (mC a k3) A s.heap u44 H locs) => ?_)
    let v45 : Int32 := (y1 + (1 : Int32))
    refine lv_iinc (v := v45) (lv' := [(1, .int v45), (0, .ref (a 0))]) hx hb dX8_pieces_17 hl (k := 1) rfl rfl (by decide) rfl (fun ls hl => ?_)
    refine lv_goto (tgt := 2) hx hb dX8_pieces_20 (by decide) ?_
    exact hK2 u44 (v45) H locs ls hq hP hw (lv_sub hl [1, 0] rfl)
set_option maxHeartbeats 4000000 in
set_option maxRecDepth 100000 in
theorem mw_M_pieces_2 (l : Launch) (D : va_G) (a : Nat → Nat) (k3 : K3) {p : Program} {e : Env} {s : State} {m : MethodId} {below : List Frame} {meth : Method} {c : Code} {A : Nat → Prop} (av : Array Value) (F : Fx p s m meth c av cX8_pieces 4 (some .int) yX8_pieces.cls (kX8_pieces :: tbG) D vwCl (ty3 k3) nestW A) (P : Int32 × S4) : ∀ (n : Nat), ∀ (u : S4) (y1 : Int32) (H : Heap) (locs : List Loc) (ls : Array Slot), mLq_M_pieces_2 n u y1 → mL_M_pieces_2 n u y1 = P → wd D vwCl (mC a k3) A s.heap u H locs → lv_has ls 4 [(0, .ref (a 0)), (1, .int y1)] → W p l e rm_mM_pieces s m av below meth c H locs 0 0 (QI below D vwCl (mC a k3) A av s P) (F0 m 2 ls []) := by
  intro n
  induction n with
  | zero => intro u y1 H locs ls hq hP hw hl; exact hq.elim
  | succ n ih => intro u y1 H locs ls hq hP hw hl; exact ms_M_pieces_2 l D a k3 av F P (mL_M_pieces_2 n) (mLq_M_pieces_2 n) ih u y1 H locs ls hq hP hw hl
def mp_M_pieces (u : S4) : Int32 × S4 :=
  mL_M_pieces_2 64 u (0 : Int32)
def mq_M_pieces (u : S4) : Prop :=
  mLq_M_pieces_2 64 u (0 : Int32)
set_option maxHeartbeats 4000000 in
set_option maxRecDepth 100000 in
theorem mc_M_pieces (l : Launch) (D : va_G) (a : Nat → Nat) (k3 : K3) (u : S4) (hq : mq_M_pieces u) : MI l D vwCl (ty3 k3) nestW (mC a k3) yX8_pieces (kX8_pieces :: tbG) rm_mM_pieces [.ref (a 0)] u (mp_M_pieces u) := by
  refine mkI (cc := cX8_pieces) (maxL := 4) (ret := (some .int)) (by decide) rfl (Nat.le_of_ble_eq_true rfl) ?_
  intro p e s m below meth c A ls F hw hl
  generalize hav : ([.ref (a 0)] : List Value).toArray = av at F ⊢
  have hl : lv_has ls 4 [(0, .ref (a 0))] := hl
  obtain ⟨hx, hb, hr, hml, hown, hts, hK, hN, hlocks, hA⟩ := id F
  have hown : s.vm.findClass RX8 = some m.cls := hown
  have htG : ∀ w ∈ tbG, w.before av s = true := fun w h => hts w (List.mem_cons_of_mem _ h)
  have hgo : ∀ P, mp_M_pieces u = P → ∀ (H : Heap) (locs : List Loc), wd D vwCl (mC a k3) A s.heap u H locs → W p l e rm_mM_pieces s m av below meth c H locs 0 0 (QI below D vwCl (mC a k3) A av s P) (F0 m 0 ls []) := by
    intro P hP H locs hw
    refine lv_iconst (v := 0) hx hb dX8_pieces_0 (by decide) ?_
    refine lv_istore_n (lv' := [(1, .int (0 : Int32)), (0, .ref (a 0))]) hx hb dX8_pieces_1 rfl hl (by decide) rfl (fun ls hl => ?_)
    exact mw_M_pieces_2 l D a k3 av F P 64 u (0 : Int32) H locs ls hq hP hw (lv_sub hl [1, 0] rfl)
  exact hgo _ rfl s.heap [] hw
theorem dX8_span_0 : decode cX8_span 0 = .ok (.aload_n 0, 1) := by decide +kernel
theorem dX8_span_1 : decode cX8_span 1 = .ok (.iload_n 1, 1) := by decide +kernel
theorem dX8_span_2 : decode cX8_span 2 = .ok (.invokevirtual 88, 3) := by decide +kernel
theorem dX8_span_5 : decode cX8_span 5 = .ok (.ifCond .ne 7, 3) := by decide +kernel
theorem dX8_span_8 : decode cX8_span 8 = .ok (.ldc2_w 153, 3) := by decide +kernel
theorem dX8_span_11 : decode cX8_span 11 = .ok (.lreturn, 1) := by decide +kernel
theorem dX8_span_12 : decode cX8_span 12 = .ok (.aload_n 0, 1) := by decide +kernel
theorem dX8_span_13 : decode cX8_span 13 = .ok (.getfield 7, 3) := by decide +kernel
theorem dX8_span_16 : decode cX8_span 16 = .ok (.aload_n 0, 1) := by decide +kernel
theorem dX8_span_17 : decode cX8_span 17 = .ok (.getfield 20, 3) := by decide +kernel
theorem dX8_span_20 : decode cX8_span 20 = .ok (.iload_n 1, 1) := by decide +kernel
theorem dX8_span_21 : decode cX8_span 21 = .ok (.iaload, 1) := by decide +kernel
theorem dX8_span_22 : decode cX8_span 22 = .ok (.iaload, 1) := by decide +kernel
theorem dX8_span_23 : decode cX8_span 23 = .ok (.aload_n 0, 1) := by decide +kernel
theorem dX8_span_24 : decode cX8_span 24 = .ok (.getfield 7, 3) := by decide +kernel
theorem dX8_span_27 : decode cX8_span 27 = .ok (.aload_n 0, 1) := by decide +kernel
theorem dX8_span_28 : decode cX8_span 28 = .ok (.getfield 23, 3) := by decide +kernel
theorem dX8_span_31 : decode cX8_span 31 = .ok (.iload_n 1, 1) := by decide +kernel
theorem dX8_span_32 : decode cX8_span 32 = .ok (.iaload, 1) := by decide +kernel
theorem dX8_span_33 : decode cX8_span 33 = .ok (.iaload, 1) := by decide +kernel
theorem dX8_span_34 : decode cX8_span 34 = .ok (.isub, 1) := by decide +kernel
theorem dX8_span_35 : decode cX8_span 35 = .ok (.i2l, 1) := by decide +kernel
theorem dX8_span_36 : decode cX8_span 36 = .ok (.lstore_n 2, 1) := by decide +kernel
theorem dX8_span_37 : decode cX8_span 37 = .ok (.aload_n 0, 1) := by decide +kernel
theorem dX8_span_38 : decode cX8_span 38 = .ok (.getfield 13, 3) := by decide +kernel
theorem dX8_span_41 : decode cX8_span 41 = .ok (.aload_n 0, 1) := by decide +kernel
theorem dX8_span_42 : decode cX8_span 42 = .ok (.getfield 20, 3) := by decide +kernel
theorem dX8_span_45 : decode cX8_span 45 = .ok (.iload_n 1, 1) := by decide +kernel
theorem dX8_span_46 : decode cX8_span 46 = .ok (.iaload, 1) := by decide +kernel
theorem dX8_span_47 : decode cX8_span 47 = .ok (.iaload, 1) := by decide +kernel
theorem dX8_span_48 : decode cX8_span 48 = .ok (.aload_n 0, 1) := by decide +kernel
theorem dX8_span_49 : decode cX8_span 49 = .ok (.getfield 13, 3) := by decide +kernel
theorem dX8_span_52 : decode cX8_span 52 = .ok (.aload_n 0, 1) := by decide +kernel
theorem dX8_span_53 : decode cX8_span 53 = .ok (.getfield 23, 3) := by decide +kernel
theorem dX8_span_56 : decode cX8_span 56 = .ok (.iload_n 1, 1) := by decide +kernel
theorem dX8_span_57 : decode cX8_span 57 = .ok (.iaload, 1) := by decide +kernel
theorem dX8_span_58 : decode cX8_span 58 = .ok (.iaload, 1) := by decide +kernel
theorem dX8_span_59 : decode cX8_span 59 = .ok (.isub, 1) := by decide +kernel
theorem dX8_span_60 : decode cX8_span 60 = .ok (.i2l, 1) := by decide +kernel
theorem dX8_span_61 : decode cX8_span 61 = .ok (.lstore 4, 2) := by decide +kernel
theorem dX8_span_63 : decode cX8_span 63 = .ok (.lload_n 2, 1) := by decide +kernel
theorem dX8_span_64 : decode cX8_span 64 = .ok (.lload_n 2, 1) := by decide +kernel
theorem dX8_span_65 : decode cX8_span 65 = .ok (.lmul, 1) := by decide +kernel
theorem dX8_span_66 : decode cX8_span 66 = .ok (.lload 4, 2) := by decide +kernel
theorem dX8_span_68 : decode cX8_span 68 = .ok (.lload 4, 2) := by decide +kernel
theorem dX8_span_70 : decode cX8_span 70 = .ok (.lmul, 1) := by decide +kernel
theorem dX8_span_71 : decode cX8_span 71 = .ok (.ladd, 1) := by decide +kernel
theorem dX8_span_72 : decode cX8_span 72 = .ok (.lreturn, 1) := by decide +kernel
abbrev rm_mM_span : Room := { frames := 1, cells := 0, slots := 0, locals := 21 }
def mp_M_span (u : S4) (x1 : Int32) : Int64 :=
  let r1 : Int32 := mp_M_isStreet u x1
  if r1 = (0 : Int32) then
    (-1 : Int64)
  else
    let v7 : Int32 := ((s4_ra u 0 (s4_ra u 3 x1)) - (s4_ra u 0 (s4_ra u 4 x1)))
    let v8 : Int64 := (v7.toInt64)
    let v13 : Int32 := ((s4_ra u 1 (s4_ra u 3 x1)) - (s4_ra u 1 (s4_ra u 4 x1)))
    let v14 : Int64 := (v13.toInt64)
    ((v8 * v8) + (v14 * v14))
def mq_M_span (u : S4) (x1 : Int32) : Prop :=
  let r1 : Int32 := mp_M_isStreet u x1
  (¬ r1 = (0 : Int32) →
    vp_in x1 12 ∧
    vp_in (s4_ra u 3 x1) 8 ∧
    vp_in x1 12 ∧
    vp_in (s4_ra u 4 x1) 8 ∧
    let v7 : Int32 := ((s4_ra u 0 (s4_ra u 3 x1)) - (s4_ra u 0 (s4_ra u 4 x1)))
    let v8 : Int64 := (v7.toInt64)
    vp_in x1 12 ∧
    vp_in (s4_ra u 3 x1) 8 ∧
    vp_in x1 12 ∧
    vp_in (s4_ra u 4 x1) 8)
set_option maxHeartbeats 4000000 in
set_option maxRecDepth 100000 in
theorem mc_M_span (l : Launch) (D : va_G) (a : Nat → Nat) (k3 : K3) (u : S4) (x1 : Int32) (hq : mq_M_span u x1) : ML l D vwCl (ty3 k3) nestW (mC a k3) yX8_span (kX8_span :: tbG) rm_mM_span [.ref (a 0), .int x1] u (mp_M_span u x1, u) := by
  refine mkL (cc := cX8_span) (maxL := 6) (ret := (some .long)) (by decide) rfl (Nat.le_of_ble_eq_true rfl) ?_
  intro p e s m below meth c A ls F hw hl
  generalize hav : ([.ref (a 0), .int x1] : List Value).toArray = av at F ⊢
  have hl : lv_has ls 6 [(0, .ref (a 0)), (1, .int x1)] := hl
  obtain ⟨hx, hb, hr, hml, hown, hts, hK, hN, hlocks, hA⟩ := id F
  have hown : s.vm.findClass RX8 = some m.cls := hown
  have htG : ∀ w ∈ tbG, w.before av s = true := fun w h => hts w (List.mem_cons_of_mem _ h)
  have f_7 := htG _ tb_515
  have f_20 := htG _ tb_519
  have f_23 := htG _ tb_520
  have f_13 := htG _ tb_516
  have k_153 := htG _ tb_711
  have hgo : ∀ P, mp_M_span u x1 = P → ∀ (H : Heap) (locs : List Loc), wd D vwCl (mC a k3) A s.heap u H locs → W p l e rm_mM_span s m av below meth c H locs 0 0 (QL below D vwCl (mC a k3) A av s (P, u)) (F0 m 0 ls []) := by
    intro P hP H locs hw
    refine lv_aload_n hx hb dX8_span_0 rfl (lv_at hl 0 rfl) ?_
    refine lv_iload_n hx hb dX8_span_1 rfl (lv_at hl 1 rfl) ?_
    let r1 : Int32 := mp_M_isStreet u x1
    refine call_vir (rest := []) ⟨hx, hb, hml, hown, htG⟩ nestW_ok hK hN hA (mc_M_isStreet l D a k3 u x1) (cwV 1 htG (tb_V tb_624 tb_626 tb_10 tb_28 tb_627) rfl rfl rfl (by decide +kernel) ⟨Nat.le_of_ble_eq_true rfl, Nat.le_of_ble_eq_true rfl⟩) (ci := 8) rfl (mo_0 a k3 u) rfl hw rfl hl.1 rfl (Nat.le_of_ble_eq_true rfl) dX8_span_2 ⟨Nat.zero_le _, Nat.zero_le _⟩ (fun H locs (hw : wd D vwCl (mC a k3) A s.heap u H locs) => ?_)
    refine lv_if_ne (tgt := 12) hx hb dX8_span_5 (by decide) (fun c2 => ?_) (fun c2 => ?_)
    · have hP := (if_neg c2).symm.trans hP
      have hq := hq c2
      refine lv_aload_n hx hb dX8_span_12 rfl (lv_at hl 0 rfl) ?_
      refine va_get (D := D) (ci := 8) (v := .ref (a 1)) (C := RX8) (T := TX8) (N := 28) hx hb htG in_8 hown hK hw.1 0 (mo_0 a k3 u) rfl 1 (by decide) f_7 (fun _ h9 => h9) rfl dX8_span_13 ?_
      refine lv_aload_n hx hb dX8_span_16 rfl (lv_at hl 0 rfl) ?_
      refine va_get (D := D) (ci := 8) (v := .ref (a 4)) (C := RX8) (T := TX8) (N := 28) hx hb htG in_8 hown hK hw.1 0 (mo_0 a k3 u) rfl 5 (by decide) f_20 (fun _ h9 => h9) rfl dX8_span_17 ?_
      refine lv_iload_n hx hb dX8_span_20 rfl (lv_at hl 1 rfl) ?_
      obtain ⟨h3, hq⟩ := hq
      refine y_iald (t0 := 0) hx hb hK hw 3 (mo_4 a k3 u) rfl h3 dX8_span_21 ?_
      obtain ⟨h4, hq⟩ := hq
      refine y_iald (t0 := 0) hx hb hK hw 0 (mo_1 a k3 u) rfl h4 dX8_span_22 ?_
      refine lv_aload_n hx hb dX8_span_23 rfl (lv_at hl 0 rfl) ?_
      refine va_get (D := D) (ci := 8) (v := .ref (a 1)) (C := RX8) (T := TX8) (N := 28) hx hb htG in_8 hown hK hw.1 0 (mo_0 a k3 u) rfl 1 (by decide) f_7 (fun _ h9 => h9) rfl dX8_span_24 ?_
      refine lv_aload_n hx hb dX8_span_27 rfl (lv_at hl 0 rfl) ?_
      refine va_get (D := D) (ci := 8) (v := .ref (a 5)) (C := RX8) (T := TX8) (N := 28) hx hb htG in_8 hown hK hw.1 0 (mo_0 a k3 u) rfl 6 (by decide) f_23 (fun _ h9 => h9) rfl dX8_span_28 ?_
      refine lv_iload_n hx hb dX8_span_31 rfl (lv_at hl 1 rfl) ?_
      obtain ⟨h5, hq⟩ := hq
      refine y_iald (t0 := 0) hx hb hK hw 4 (mo_5 a k3 u) rfl h5 dX8_span_32 ?_
      obtain ⟨h6, hq⟩ := hq
      refine y_iald (t0 := 0) hx hb hK hw 0 (mo_1 a k3 u) rfl h6 dX8_span_33 ?_
      refine lv_isub hx hb dX8_span_34 ?_
      let v7 : Int32 := ((s4_ra u 0 (s4_ra u 3 x1)) - (s4_ra u 0 (s4_ra u 4 x1)))
      refine lv_i2l hx hb dX8_span_35 rfl ?_
      let v8 : Int64 := (v7.toInt64)
      refine lv_lstore_n (lv' := [(2, .long v8), (0, .ref (a 0)), (1, .int x1)]) hx hb dX8_span_36 rfl hl (by decide) rfl (fun ls hl => ?_)
      refine lv_aload_n hx hb dX8_span_37 rfl (lv_at hl 1 rfl) ?_
      refine va_get (D := D) (ci := 8) (v := .ref (a 2)) (C := RX8) (T := TX8) (N := 28) hx hb htG in_8 hown hK hw.1 0 (mo_0 a k3 u) rfl 2 (by decide) f_13 (fun _ h9 => h9) rfl dX8_span_38 ?_
      refine lv_aload_n hx hb dX8_span_41 rfl (lv_at hl 1 rfl) ?_
      refine va_get (D := D) (ci := 8) (v := .ref (a 4)) (C := RX8) (T := TX8) (N := 28) hx hb htG in_8 hown hK hw.1 0 (mo_0 a k3 u) rfl 5 (by decide) f_20 (fun _ h9 => h9) rfl dX8_span_42 ?_
      refine lv_iload_n hx hb dX8_span_45 rfl (lv_at hl 2 rfl) ?_
      obtain ⟨h9, hq⟩ := hq
      refine y_iald (t0 := 0) hx hb hK hw 3 (mo_4 a k3 u) rfl h9 dX8_span_46 ?_
      obtain ⟨h10, hq⟩ := hq
      refine y_iald (t0 := 0) hx hb hK hw 1 (mo_2 a k3 u) rfl h10 dX8_span_47 ?_
      refine lv_aload_n hx hb dX8_span_48 rfl (lv_at hl 1 rfl) ?_
      refine va_get (D := D) (ci := 8) (v := .ref (a 2)) (C := RX8) (T := TX8) (N := 28) hx hb htG in_8 hown hK hw.1 0 (mo_0 a k3 u) rfl 2 (by decide) f_13 (fun _ h9 => h9) rfl dX8_span_49 ?_
      refine lv_aload_n hx hb dX8_span_52 rfl (lv_at hl 1 rfl) ?_
      refine va_get (D := D) (ci := 8) (v := .ref (a 5)) (C := RX8) (T := TX8) (N := 28) hx hb htG in_8 hown hK hw.1 0 (mo_0 a k3 u) rfl 6 (by decide) f_23 (fun _ h9 => h9) rfl dX8_span_53 ?_
      refine lv_iload_n hx hb dX8_span_56 rfl (lv_at hl 2 rfl) ?_
      obtain ⟨h11, hq⟩ := hq
      refine y_iald (t0 := 0) hx hb hK hw 4 (mo_5 a k3 u) rfl h11 dX8_span_57 ?_
      have h12 := hq
      refine y_iald (t0 := 0) hx hb hK hw 1 (mo_2 a k3 u) rfl h12 dX8_span_58 ?_
      refine lv_isub hx hb dX8_span_59 ?_
      let v13 : Int32 := ((s4_ra u 1 (s4_ra u 3 x1)) - (s4_ra u 1 (s4_ra u 4 x1)))
      refine lv_i2l hx hb dX8_span_60 rfl ?_
      let v14 : Int64 := (v13.toInt64)
      refine lv_lstore (lv' := [(4, .long v14), (2, .long v8), (0, .ref (a 0)), (1, .int x1)]) hx hb dX8_span_61 hl (by decide) rfl (fun ls hl => ?_)
      refine lv_lload_n hx hb dX8_span_63 rfl (lv_at hl 1 rfl) ?_
      refine lv_lload_n hx hb dX8_span_64 rfl (lv_at hl 1 rfl) ?_
      refine lv_lmul hx hb dX8_span_65 ?_
      refine lv_lload hx hb dX8_span_66 (lv_at hl 0 rfl) ?_
      refine lv_lload hx hb dX8_span_68 (lv_at hl 0 rfl) ?_
      refine lv_lmul hx hb dX8_span_70 ?_
      refine lv_ladd hx hb dX8_span_71 ?_
      exact ret_l hx hb hr hlocks hw dX8_span_72 (congrArg (fun z => (z, u)) hP)
    · have hP := (if_pos c2).symm.trans hP
      refine lv_ldc2 (v := -1) hx hb hown k_153 dX8_span_8 ?_
      exact ret_l hx hb hr hlocks hw dX8_span_11 (congrArg (fun z => (z, u)) hP)
  exact hgo _ rfl s.heap [] hw
