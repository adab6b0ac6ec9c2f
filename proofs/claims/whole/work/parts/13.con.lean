theorem dX4_goOnFrom_0 : decode cX4_goOnFrom 0 = .ok (.iconst 0, 1) := by decide +kernel
theorem dX4_goOnFrom_1 : decode cX4_goOnFrom 1 = .ok (.istore_n 3, 1) := by decide +kernel
theorem dX4_goOnFrom_2 : decode cX4_goOnFrom 2 = .ok (.iload_n 3, 1) := by decide +kernel
theorem dX4_goOnFrom_3 : decode cX4_goOnFrom 3 = .ok (.aload_n 1, 1) := by decide +kernel
theorem dX4_goOnFrom_4 : decode cX4_goOnFrom 4 = .ok (.getfield 35, 3) := by decide +kernel
theorem dX4_goOnFrom_7 : decode cX4_goOnFrom 7 = .ok (.invokevirtual 41, 3) := by decide +kernel
theorem dX4_goOnFrom_10 : decode cX4_goOnFrom 10 = .ok (.if_icmp .ge 48, 3) := by decide +kernel
theorem dX4_goOnFrom_13 : decode cX4_goOnFrom 13 = .ok (.aload_n 1, 1) := by decide +kernel
theorem dX4_goOnFrom_14 : decode cX4_goOnFrom 14 = .ok (.iload_n 2, 1) := by decide +kernel
theorem dX4_goOnFrom_15 : decode cX4_goOnFrom 15 = .ok (.iload_n 3, 1) := by decide +kernel
theorem dX4_goOnFrom_16 : decode cX4_goOnFrom 16 = .ok (.aload_n 0, 1) := by decide +kernel
theorem dX4_goOnFrom_17 : decode cX4_goOnFrom 17 = .ok (.getfield 9, 3) := by decide +kernel
theorem dX4_goOnFrom_20 : decode cX4_goOnFrom 20 = .ok (.iload_n 2, 1) := by decide +kernel
theorem dX4_goOnFrom_21 : decode cX4_goOnFrom 21 = .ok (.iaload, 1) := by decide +kernel
theorem dX4_goOnFrom_22 : decode cX4_goOnFrom 22 = .ok (.invokevirtual 56, 3) := by decide +kernel
theorem dX4_goOnFrom_25 : decode cX4_goOnFrom 25 = .ok (.istore 4, 2) := by decide +kernel
theorem dX4_goOnFrom_27 : decode cX4_goOnFrom 27 = .ok (.iload 4, 2) := by decide +kernel
theorem dX4_goOnFrom_29 : decode cX4_goOnFrom 29 = .ok (.iconst (-1), 1) := by decide +kernel
theorem dX4_goOnFrom_30 : decode cX4_goOnFrom 30 = .ok (.if_icmp .eq 22, 3) := by decide +kernel
theorem dX4_goOnFrom_33 : decode cX4_goOnFrom 33 = .ok (.iload 4, 2) := by decide +kernel
theorem dX4_goOnFrom_35 : decode cX4_goOnFrom 35 = .ok (.aload_n 0, 1) := by decide +kernel
theorem dX4_goOnFrom_36 : decode cX4_goOnFrom 36 = .ok (.getfield 9, 3) := by decide +kernel
theorem dX4_goOnFrom_39 : decode cX4_goOnFrom 39 = .ok (.iload_n 3, 1) := by decide +kernel
theorem dX4_goOnFrom_40 : decode cX4_goOnFrom 40 = .ok (.iaload, 1) := by decide +kernel
theorem dX4_goOnFrom_41 : decode cX4_goOnFrom 41 = .ok (.if_icmp .ge 11, 3) := by decide +kernel
theorem dX4_goOnFrom_44 : decode cX4_goOnFrom 44 = .ok (.aload_n 0, 1) := by decide +kernel
theorem dX4_goOnFrom_45 : decode cX4_goOnFrom 45 = .ok (.getfield 9, 3) := by decide +kernel
theorem dX4_goOnFrom_48 : decode cX4_goOnFrom 48 = .ok (.iload_n 3, 1) := by decide +kernel
theorem dX4_goOnFrom_49 : decode cX4_goOnFrom 49 = .ok (.iload 4, 2) := by decide +kernel
theorem dX4_goOnFrom_51 : decode cX4_goOnFrom 51 = .ok (.iastore, 1) := by decide +kernel
theorem dX4_goOnFrom_52 : decode cX4_goOnFrom 52 = .ok (.iinc 3 1, 3) := by decide +kernel
theorem dX4_goOnFrom_55 : decode cX4_goOnFrom 55 = .ok (.goto (-53), 3) := by decide +kernel
theorem dX4_goOnFrom_58 : decode cX4_goOnFrom 58 = .ok (.return_, 1) := by decide +kernel
abbrev rm_xSearch_goOnFrom : Room := { frames := 4, cells := 0, slots := 0, locals := 95 }
def xB_Search_goOnFrom_2 (K2 : S4 → Int32 → Int32 → S4) (u : S4) (y2 : Int32) (y3 : Int32) : S4 :=
  let r1 : Int32 := xp_Streets_sides u
  if r1 ≤ y3 then
    u
  else
    let r5 : Int32 := xp_Net_endBehind u y2 y3 (s4_ra u 10 y2)
    if r5 = (-1 : Int32) then
      let v7 : Int32 := (y3 + (1 : Int32))
      K2 u y2 v7
    else
      if (s4_ra u 10 y3) ≤ r5 then
        let v10 : Int32 := (y3 + (1 : Int32))
        K2 u y2 v10
      else
        let u12 : S4 := s4_wa u 10 y3 r5
        let v13 : Int32 := (y3 + (1 : Int32))
        K2 u12 y2 v13
def xL_Search_goOnFrom_2 : Nat → S4 → Int32 → Int32 → S4
  | 0 => fun u _ _ => u
  | n + 1 => xB_Search_goOnFrom_2 (xL_Search_goOnFrom_2 n)
def xBq_Search_goOnFrom_2 (Q2 : S4 → Int32 → Int32 → Prop) (u : S4) (y2 : Int32) (y3 : Int32) : Prop :=
  let r1 : Int32 := xp_Streets_sides u
  (¬ r1 ≤ y3 →
    vp_in y2 24 ∧
    xq_Net_endBehind u y2 y3 (s4_ra u 10 y2) ∧
    let r5 : Int32 := xp_Net_endBehind u y2 y3 (s4_ra u 10 y2)
    ((r5 = (-1 : Int32) →
      let v7 : Int32 := (y3 + (1 : Int32))
      Q2 u y2 v7) ∧ (¬ r5 = (-1 : Int32) →
      vp_in y3 24 ∧
      (((s4_ra u 10 y3) ≤ r5 →
        let v10 : Int32 := (y3 + (1 : Int32))
        Q2 u y2 v10) ∧ (¬ (s4_ra u 10 y3) ≤ r5 →
        vp_in y3 24 ∧
        let u12 : S4 := s4_wa u 10 y3 r5
        let v13 : Int32 := (y3 + (1 : Int32))
        Q2 u12 y2 v13)))))
def xLq_Search_goOnFrom_2 : Nat → S4 → Int32 → Int32 → Prop
  | 0 => fun _ _ _ => False
  | n + 1 => xBq_Search_goOnFrom_2 (xLq_Search_goOnFrom_2 n)
set_option maxHeartbeats 4000000 in
set_option maxRecDepth 100000 in
theorem xs_Search_goOnFrom_2 (l : Launch) (D : va_G) (a : Nat → Nat) (k3 : K3) {p : Program} {e : Env} {s : State} {m : MethodId} {below : List Frame} {meth : Method} {c : Code} {A : Nat → Prop} (av : Array Value) (F : Fx p s m meth c av cX4_goOnFrom 5 none yX4_goOnFrom.cls (kX4_goOnFrom :: tbG) D vwCl (ty3 k3) nestW A) (P : S4) (K2 : S4 → Int32 → Int32 → S4) (Q2 : S4 → Int32 → Int32 → Prop) (hK2 : ∀ (u : S4) (y2 : Int32) (y3 : Int32) (H : Heap) (locs : List Loc) (ls : Array Slot), Q2 u y2 y3 → K2 u y2 y3 = P → wd D vwCl (xC a k3) A s.heap u H locs → lv_has ls 5 [(0, .ref (a 5)), (1, .ref (a 1)), (2, .int y2), (3, .int y3)] → W p l e rm_xSearch_goOnFrom s m av below meth c H locs 0 0 (QV below D vwCl (xC a k3) A av s P) (F0 m 2 ls [])) : ∀ (u : S4) (y2 : Int32) (y3 : Int32) (H : Heap) (locs : List Loc) (ls : Array Slot), xBq_Search_goOnFrom_2 Q2 u y2 y3 → xB_Search_goOnFrom_2 K2 u y2 y3 = P → wd D vwCl (xC a k3) A s.heap u H locs → lv_has ls 5 [(0, .ref (a 5)), (1, .ref (a 1)), (2, .int y2), (3, .int y3)] → W p l e rm_xSearch_goOnFrom s m av below meth c H locs 0 0 (QV below D vwCl (xC a k3) A av s P) (F0 m 2 ls []) := by
  obtain ⟨hx, hb, hr, hml, hown, hts, hK, hN, hlocks, hA⟩ := id F
  have hown : s.vm.findClass RX4 = some m.cls := hown
  have htG : ∀ w ∈ tbG, w.before av s = true := fun w h => hts w (List.mem_cons_of_mem _ h)
  have f_35 := va_Nw.use (A := av) rfl (hN _ nw_5)
  have f_9 := htG _ tb_140
  intro u y2 y3 H locs ls hq hP hw hl
  refine lv_iload_n hx hb dX4_goOnFrom_2 rfl (lv_at hl 3 rfl) ?_
  refine lv_aload_n hx hb dX4_goOnFrom_3 rfl (lv_at hl 1 rfl) ?_
  refine va_getN (D := D) (ci := 2) (v := .ref (a 3)) (C := RX2) (T := TX2) (N := 5) hx hb htG in_2 hown hK hw.1 1 (xo_1 a k3 u) rfl 1 (by decide) f_35 (fun _ h9 => h9) rfl dX4_goOnFrom_4 ?_
  let r1 : Int32 := xp_Streets_sides u
  refine call_vir (rest := [.int y3]) ⟨hx, hb, hml, hown, htG⟩ nestW_ok hK hN hA (xc_Streets_sides l D a k3 u) (cwV 0 htG (tb_V tb_311 tb_312 tb_313 tb_23 tb_314) rfl rfl rfl (by decide +kernel) ⟨Nat.le_of_ble_eq_true rfl, Nat.le_of_ble_eq_true rfl⟩) (ci := 5) rfl (xo_3 a k3 u) rfl hw rfl hl.1 rfl (Nat.le_of_ble_eq_true rfl) dX4_goOnFrom_7 ⟨Nat.zero_le _, Nat.zero_le _⟩ (fun H locs (hw : wd D vwCl (xC a k3) A s.heap u H locs) => ?_)
  refine lv_icmp_ge (tgt := 58) hx hb dX4_goOnFrom_10 (by decide) (fun c2 => ?_) (fun c2 => ?_)
  · have hP := (if_pos c2).symm.trans hP
    exact ret_v hx hb hr hlocks hw dX4_goOnFrom_58 hP
  · have hP := (if_neg c2).symm.trans hP
    have hq := hq c2
    refine lv_aload_n hx hb dX4_goOnFrom_13 rfl (lv_at hl 1 rfl) ?_
    refine lv_iload_n hx hb dX4_goOnFrom_14 rfl (lv_at hl 2 rfl) ?_
    refine lv_iload_n hx hb dX4_goOnFrom_15 rfl (lv_at hl 3 rfl) ?_
    refine lv_aload_n hx hb dX4_goOnFrom_16 rfl (lv_at hl 0 rfl) ?_
    refine va_get (D := D) (ci := 4) (v := .ref (a 23)) (C := RX4) (T := TX4) (N := 6) hx hb htG in_4 hown hK hw.1 5 (xo_5 a k3 u) rfl 0 (by decide) f_9 (fun _ h9 => h9) rfl dX4_goOnFrom_17 ?_
    refine lv_iload_n hx hb dX4_goOnFrom_20 rfl (lv_at hl 2 rfl) ?_
    obtain ⟨h3, hq⟩ := hq
    refine y_iald (t0 := 0) hx hb hK hw 10 (xo_23 a k3 u) rfl h3 dX4_goOnFrom_21 ?_
    obtain ⟨h4, hq⟩ := hq
    let r5 : Int32 := xp_Net_endBehind u y2 y3 (s4_ra u 10 y2)
    refine call_vir (rest := []) ⟨hx, hb, hml, hown, htG⟩ nestW_ok hK hN hA (xc_Net_endBehind l D a k3 u y2 y3 (s4_ra u 10 y2) h4) (cwV 3 htG (tb_V tb_323 tb_324 tb_325 tb_21 tb_326) rfl rfl rfl (by decide +kernel) ⟨Nat.le_of_ble_eq_true rfl, Nat.le_of_ble_eq_true rfl⟩) (ci := 2) rfl (xo_1 a k3 u) rfl hw rfl hl.1 rfl (Nat.le_of_ble_eq_true rfl) dX4_goOnFrom_22 ⟨Nat.zero_le _, Nat.zero_le _⟩ (fun H locs (hw : wd D vwCl (xC a k3) A s.heap u H locs) => ?_)
    refine lv_istore (lv' := [(4, .int r5), (0, .ref (a 5)), (1, .ref (a 1)), (2, .int y2), (3, .int y3)]) hx hb dX4_goOnFrom_25 hl (by decide) rfl (fun ls hl => ?_)
    refine lv_iload hx hb dX4_goOnFrom_27 (lv_at hl 0 rfl) ?_
    refine lv_iconst (v := -1) hx hb dX4_goOnFrom_29 (by decide) ?_
    refine lv_icmp_eq (tgt := 52) hx hb dX4_goOnFrom_30 (by decide) (fun c6 => ?_) (fun c6 => ?_)
    · have hP := (if_pos c6).symm.trans hP
      have hq := hq.1 c6
      let v7 : Int32 := (y3 + (1 : Int32))
      refine lv_iinc (v := v7) (lv' := [(3, .int v7), (4, .int r5), (0, .ref (a 5)), (1, .ref (a 1)), (2, .int y2)]) hx hb dX4_goOnFrom_52 hl (k := 4) rfl rfl (by decide) rfl (fun ls hl => ?_)
      refine lv_goto (tgt := 2) hx hb dX4_goOnFrom_55 (by decide) ?_
      exact hK2 u (y2) (v7) H locs ls hq hP hw (lv_sub hl [2, 3, 4, 0] rfl)
    · have hP := (if_neg c6).symm.trans hP
      have hq := hq.2 c6
      refine lv_iload hx hb dX4_goOnFrom_33 (lv_at hl 0 rfl) ?_
      refine lv_aload_n hx hb dX4_goOnFrom_35 rfl (lv_at hl 1 rfl) ?_
      refine va_get (D := D) (ci := 4) (v := .ref (a 23)) (C := RX4) (T := TX4) (N := 6) hx hb htG in_4 hown hK hw.1 5 (xo_5 a k3 u) rfl 0 (by decide) f_9 (fun _ h9 => h9) rfl dX4_goOnFrom_36 ?_
      refine lv_iload_n hx hb dX4_goOnFrom_39 rfl (lv_at hl 4 rfl) ?_
      obtain ⟨h8, hq⟩ := hq
      refine y_iald (t0 := 0) hx hb hK hw 10 (xo_23 a k3 u) rfl h8 dX4_goOnFrom_40 ?_
      refine lv_icmp_ge (tgt := 52) hx hb dX4_goOnFrom_41 (by decide) (fun c9 => ?_) (fun c9 => ?_)
      · have hP := (if_pos c9).symm.trans hP
        have hq := hq.1 c9
        let v10 : Int32 := (y3 + (1 : Int32))
        refine lv_iinc (v := v10) (lv' := [(3, .int v10), (4, .int r5), (0, .ref (a 5)), (1, .ref (a 1)), (2, .int y2)]) hx hb dX4_goOnFrom_52 hl (k := 4) rfl rfl (by decide) rfl (fun ls hl => ?_)
        refine lv_goto (tgt := 2) hx hb dX4_goOnFrom_55 (by decide) ?_
        exact hK2 u (y2) (v10) H locs ls hq hP hw (lv_sub hl [2, 3, 4, 0] rfl)
      · have hP := (if_neg c9).symm.trans hP
        have hq := hq.2 c9
        refine lv_aload_n hx hb dX4_goOnFrom_44 rfl (lv_at hl 1 rfl) ?_
        refine va_get (D := D) (ci := 4) (v := .ref (a 23)) (C := RX4) (T := TX4) (N := 6) hx hb htG in_4 hown hK hw.1 5 (xo_5 a k3 u) rfl 0 (by decide) f_9 (fun _ h9 => h9) rfl dX4_goOnFrom_45 ?_
        refine lv_iload_n hx hb dX4_goOnFrom_48 rfl (lv_at hl 4 rfl) ?_
        refine lv_iload hx hb dX4_goOnFrom_49 (lv_at hl 0 rfl) ?_
        obtain ⟨h11, hq⟩ := hq
        let u12 : S4 := s4_wa u 10 y3 r5
        refine y_iast (t0 := 0) hx hb hK hw 10 (xo_23 a k3 u) (xq_23 a k3 u) rfl h11 dX4_goOnFrom_51 (fun H locs (hw : wd D vwCl (xC a k3) A s.heap u12 H locs) => ?_)
        let v13 : Int32 := (y3 + (1 : Int32))
        refine lv_iinc (v := v13) (lv' := [(3, .int v13), (4, .int r5), (0, .ref (a 5)), (1, .ref (a 1)), (2, .int y2)]) hx hb dX4_goOnFrom_52 hl (k := 4) rfl rfl (by decide) rfl (fun ls hl => ?_)
        refine lv_goto (tgt := 2) hx hb dX4_goOnFrom_55 (by decide) ?_
        exact hK2 u12 (y2) (v13) H locs ls hq hP hw (lv_sub hl [2, 3, 4, 0] rfl)
set_option maxHeartbeats 4000000 in
set_option maxRecDepth 100000 in
theorem xw_Search_goOnFrom_2 (l : Launch) (D : va_G) (a : Nat → Nat) (k3 : K3) {p : Program} {e : Env} {s : State} {m : MethodId} {below : List Frame} {meth : Method} {c : Code} {A : Nat → Prop} (av : Array Value) (F : Fx p s m meth c av cX4_goOnFrom 5 none yX4_goOnFrom.cls (kX4_goOnFrom :: tbG) D vwCl (ty3 k3) nestW A) (P : S4) : ∀ (n : Nat), ∀ (u : S4) (y2 : Int32) (y3 : Int32) (H : Heap) (locs : List Loc) (ls : Array Slot), xLq_Search_goOnFrom_2 n u y2 y3 → xL_Search_goOnFrom_2 n u y2 y3 = P → wd D vwCl (xC a k3) A s.heap u H locs → lv_has ls 5 [(0, .ref (a 5)), (1, .ref (a 1)), (2, .int y2), (3, .int y3)] → W p l e rm_xSearch_goOnFrom s m av below meth c H locs 0 0 (QV below D vwCl (xC a k3) A av s P) (F0 m 2 ls []) := by
  intro n
  induction n with
  | zero => intro u y2 y3 H locs ls hq hP hw hl; exact hq.elim
  | succ n ih => intro u y2 y3 H locs ls hq hP hw hl; exact xs_Search_goOnFrom_2 l D a k3 av F P (xL_Search_goOnFrom_2 n) (xLq_Search_goOnFrom_2 n) ih u y2 y3 H locs ls hq hP hw hl
def xp_Search_goOnFrom (u : S4) (x2 : Int32) : S4 :=
  xL_Search_goOnFrom_2 64 u x2 (0 : Int32)
def xq_Search_goOnFrom (u : S4) (x2 : Int32) : Prop :=
  xLq_Search_goOnFrom_2 64 u x2 (0 : Int32)
set_option maxHeartbeats 4000000 in
set_option maxRecDepth 100000 in
theorem xc_Search_goOnFrom (l : Launch) (D : va_G) (a : Nat → Nat) (k3 : K3) (u : S4) (x2 : Int32) (hq : xq_Search_goOnFrom u x2) : MV l D vwCl (ty3 k3) nestW (xC a k3) yX4_goOnFrom (kX4_goOnFrom :: tbG) rm_xSearch_goOnFrom [.ref (a 5), .ref (a 1), .int x2] u (xp_Search_goOnFrom u x2) := by
  refine mkV (cc := cX4_goOnFrom) (maxL := 5) (ret := none) (by decide) rfl (Nat.le_of_ble_eq_true rfl) ?_
  intro p e s m below meth c A ls F hw hl
  generalize hav : ([.ref (a 5), .ref (a 1), .int x2] : List Value).toArray = av at F ⊢
  have hl : lv_has ls 5 [(0, .ref (a 5)), (1, .ref (a 1)), (2, .int x2)] := hl
  obtain ⟨hx, hb, hr, hml, hown, hts, hK, hN, hlocks, hA⟩ := id F
  have hown : s.vm.findClass RX4 = some m.cls := hown
  have htG : ∀ w ∈ tbG, w.before av s = true := fun w h => hts w (List.mem_cons_of_mem _ h)
  have hgo : ∀ P, xp_Search_goOnFrom u x2 = P → ∀ (H : Heap) (locs : List Loc), wd D vwCl (xC a k3) A s.heap u H locs → W p l e rm_xSearch_goOnFrom s m av below meth c H locs 0 0 (QV below D vwCl (xC a k3) A av s P) (F0 m 0 ls []) := by
    intro P hP H locs hw
    refine lv_iconst (v := 0) hx hb dX4_goOnFrom_0 (by decide) ?_
    refine lv_istore_n (lv' := [(3, .int (0 : Int32)), (0, .ref (a 5)), (1, .ref (a 1)), (2, .int x2)]) hx hb dX4_goOnFrom_1 rfl hl (by decide) rfl (fun ls hl => ?_)
    exact xw_Search_goOnFrom_2 l D a k3 av F P 64 u x2 (0 : Int32) H locs ls hq hP hw (lv_sub hl [1, 2, 3, 0] rfl)
  exact hgo _ rfl s.heap [] hw
theorem dX4_explore_0 : decode cX4_explore 0 = .ok (.aload_n 0, 1) := by decide +kernel
theorem dX4_explore_1 : decode cX4_explore 1 = .ok (.invokevirtual 32, 3) := by decide +kernel
theorem dX4_explore_4 : decode cX4_explore 4 = .ok (.aload_n 0, 1) := by decide +kernel
theorem dX4_explore_5 : decode cX4_explore 5 = .ok (.getfield 9, 3) := by decide +kernel
theorem dX4_explore_8 : decode cX4_explore 8 = .ok (.iload_n 2, 1) := by decide +kernel
theorem dX4_explore_9 : decode cX4_explore 9 = .ok (.iload_n 3, 1) := by decide +kernel
theorem dX4_explore_10 : decode cX4_explore 10 = .ok (.iastore, 1) := by decide +kernel
theorem dX4_explore_11 : decode cX4_explore 11 = .ok (.aload_n 1, 1) := by decide +kernel
theorem dX4_explore_12 : decode cX4_explore 12 = .ok (.getfield 35, 3) := by decide +kernel
theorem dX4_explore_15 : decode cX4_explore 15 = .ok (.invokevirtual 41, 3) := by decide +kernel
theorem dX4_explore_18 : decode cX4_explore 18 = .ok (.istore 4, 2) := by decide +kernel
theorem dX4_explore_20 : decode cX4_explore 20 = .ok (.iconst 0, 1) := by decide +kernel
theorem dX4_explore_21 : decode cX4_explore 21 = .ok (.istore 5, 2) := by decide +kernel
theorem dX4_explore_23 : decode cX4_explore 23 = .ok (.iload 5, 2) := by decide +kernel
theorem dX4_explore_25 : decode cX4_explore 25 = .ok (.iload 4, 2) := by decide +kernel
theorem dX4_explore_27 : decode cX4_explore 27 = .ok (.if_icmp .ge 56, 3) := by decide +kernel
theorem dX4_explore_30 : decode cX4_explore 30 = .ok (.aload_n 0, 1) := by decide +kernel
theorem dX4_explore_31 : decode cX4_explore 31 = .ok (.iload 4, 2) := by decide +kernel
theorem dX4_explore_33 : decode cX4_explore 33 = .ok (.invokevirtual 47, 3) := by decide +kernel
theorem dX4_explore_36 : decode cX4_explore 36 = .ok (.istore 6, 2) := by decide +kernel
theorem dX4_explore_38 : decode cX4_explore 38 = .ok (.iload 6, 2) := by decide +kernel
theorem dX4_explore_40 : decode cX4_explore 40 = .ok (.iconst (-1), 1) := by decide +kernel
theorem dX4_explore_41 : decode cX4_explore 41 = .ok (.if_icmp .ne 4, 3) := by decide +kernel
theorem dX4_explore_44 : decode cX4_explore 44 = .ok (.return_, 1) := by decide +kernel
theorem dX4_explore_45 : decode cX4_explore 45 = .ok (.aload_n 0, 1) := by decide +kernel
theorem dX4_explore_46 : decode cX4_explore 46 = .ok (.getfield 15, 3) := by decide +kernel
theorem dX4_explore_49 : decode cX4_explore 49 = .ok (.iload 6, 2) := by decide +kernel
theorem dX4_explore_51 : decode cX4_explore 51 = .ok (.iconst 1, 1) := by decide +kernel
theorem dX4_explore_52 : decode cX4_explore 52 = .ok (.bastore, 1) := by decide +kernel
theorem dX4_explore_53 : decode cX4_explore 53 = .ok (.aload_n 0, 1) := by decide +kernel
theorem dX4_explore_54 : decode cX4_explore 54 = .ok (.getfield 22, 3) := by decide +kernel
theorem dX4_explore_57 : decode cX4_explore 57 = .ok (.iload 5, 2) := by decide +kernel
theorem dX4_explore_59 : decode cX4_explore 59 = .ok (.iload 6, 2) := by decide +kernel
theorem dX4_explore_61 : decode cX4_explore 61 = .ok (.iastore, 1) := by decide +kernel
theorem dX4_explore_62 : decode cX4_explore 62 = .ok (.aload_n 0, 1) := by decide +kernel
theorem dX4_explore_63 : decode cX4_explore 63 = .ok (.iload 5, 2) := by decide +kernel
theorem dX4_explore_65 : decode cX4_explore 65 = .ok (.iconst 1, 1) := by decide +kernel
theorem dX4_explore_66 : decode cX4_explore 66 = .ok (.iadd, 1) := by decide +kernel
theorem dX4_explore_67 : decode cX4_explore 67 = .ok (.putfield 28, 3) := by decide +kernel
theorem dX4_explore_70 : decode cX4_explore 70 = .ok (.aload_n 0, 1) := by decide +kernel
theorem dX4_explore_71 : decode cX4_explore 71 = .ok (.aload_n 1, 1) := by decide +kernel
theorem dX4_explore_72 : decode cX4_explore 72 = .ok (.iload 6, 2) := by decide +kernel
theorem dX4_explore_74 : decode cX4_explore 74 = .ok (.invokevirtual 51, 3) := by decide +kernel
theorem dX4_explore_77 : decode cX4_explore 77 = .ok (.iinc 5 1, 3) := by decide +kernel
theorem dX4_explore_80 : decode cX4_explore 80 = .ok (.goto (-57), 3) := by decide +kernel
theorem dX4_explore_83 : decode cX4_explore 83 = .ok (.return_, 1) := by decide +kernel
abbrev rm_xSearch_explore : Room := { frames := 5, cells := 0, slots := 0, locals := 119 }
def xB_Search_explore_23 (K23 : S4 → Int32 → Int32 → S4) (u : S4) (y4 : Int32) (y5 : Int32) : S4 :=
  if y4 ≤ y5 then
    u
  else
    let r8 : Int32 := xp_Search_soonestUnsettled u y4
    if r8 = (-1 : Int32) then
      u
    else
      let u11 : S4 := s4_wz u 11 r8 (1 : Int32)
      let u13 : S4 := s4_wa u11 13 y5 r8
      let v14 : Int32 := (y5 + (1 : Int32))
      let u15 : S4 := s4_si u13 2 v14
      let u17 : S4 := xp_Search_goOnFrom u15 r8
      let v18 : Int32 := (y5 + (1 : Int32))
      K23 u17 y4 v18
def xL_Search_explore_23 : Nat → S4 → Int32 → Int32 → S4
  | 0 => fun u _ _ => u
  | n + 1 => xB_Search_explore_23 (xL_Search_explore_23 n)
def xBq_Search_explore_23 (Q23 : S4 → Int32 → Int32 → Prop) (u : S4) (y4 : Int32) (y5 : Int32) : Prop :=
  (¬ y4 ≤ y5 →
    xq_Search_soonestUnsettled u y4 ∧
    let r8 : Int32 := xp_Search_soonestUnsettled u y4
    (¬ r8 = (-1 : Int32) →
      vp_in r8 24 ∧
      let u11 : S4 := s4_wz u 11 r8 (1 : Int32)
      vp_in y5 24 ∧
      let u13 : S4 := s4_wa u11 13 y5 r8
      let v14 : Int32 := (y5 + (1 : Int32))
      let u15 : S4 := s4_si u13 2 v14
      xq_Search_goOnFrom u15 r8 ∧
      let u17 : S4 := xp_Search_goOnFrom u15 r8
      let v18 : Int32 := (y5 + (1 : Int32))
      Q23 u17 y4 v18))
def xLq_Search_explore_23 : Nat → S4 → Int32 → Int32 → Prop
  | 0 => fun _ _ _ => False
  | n + 1 => xBq_Search_explore_23 (xLq_Search_explore_23 n)
set_option maxHeartbeats 4000000 in
set_option maxRecDepth 100000 in
theorem xs_Search_explore_23 (l : Launch) (D : va_G) (a : Nat → Nat) (k3 : K3) {p : Program} {e : Env} {s : State} {m : MethodId} {below : List Frame} {meth : Method} {c : Code} {A : Nat → Prop} (av : Array Value) (F : Fx p s m meth c av cX4_explore 7 none yX4_explore.cls (kX4_explore :: tbG) D vwCl (ty3 k3) nestW A) (P : S4) (K23 : S4 → Int32 → Int32 → S4) (Q23 : S4 → Int32 → Int32 → Prop) (hK23 : ∀ (u : S4) (y4 : Int32) (y5 : Int32) (H : Heap) (locs : List Loc) (ls : Array Slot), Q23 u y4 y5 → K23 u y4 y5 = P → wd D vwCl (xC a k3) A s.heap u H locs → lv_has ls 7 [(0, .ref (a 5)), (1, .ref (a 1)), (4, .int y4), (5, .int y5)] → W p l e rm_xSearch_explore s m av below meth c H locs 0 0 (QV below D vwCl (xC a k3) A av s P) (F0 m 23 ls [])) : ∀ (u : S4) (y4 : Int32) (y5 : Int32) (H : Heap) (locs : List Loc) (ls : Array Slot), xBq_Search_explore_23 Q23 u y4 y5 → xB_Search_explore_23 K23 u y4 y5 = P → wd D vwCl (xC a k3) A s.heap u H locs → lv_has ls 7 [(0, .ref (a 5)), (1, .ref (a 1)), (4, .int y4), (5, .int y5)] → W p l e rm_xSearch_explore s m av below meth c H locs 0 0 (QV below D vwCl (xC a k3) A av s P) (F0 m 23 ls []) := by
  obtain ⟨hx, hb, hr, hml, hown, hts, hK, hN, hlocks, hA⟩ := id F
  have hown : s.vm.findClass RX4 = some m.cls := hown
  have htG : ∀ w ∈ tbG, w.before av s = true := fun w h => hts w (List.mem_cons_of_mem _ h)
  have f_15 := htG _ tb_141
  have f_22 := htG _ tb_143
  have f_28 := htG _ tb_145
  intro u y4 y5 H locs ls hq hP hw hl
  refine lv_iload hx hb dX4_explore_23 (lv_at hl 3 rfl) ?_
  refine lv_iload hx hb dX4_explore_25 (lv_at hl 2 rfl) ?_
  refine lv_icmp_ge (tgt := 83) hx hb dX4_explore_27 (by decide) (fun c6 => ?_) (fun c6 => ?_)
  · have hP := (if_pos c6).symm.trans hP
    exact ret_v hx hb hr hlocks hw dX4_explore_83 hP
  · have hP := (if_neg c6).symm.trans hP
    have hq := hq c6
    refine lv_aload_n hx hb dX4_explore_30 rfl (lv_at hl 0 rfl) ?_
    refine lv_iload hx hb dX4_explore_31 (lv_at hl 2 rfl) ?_
    obtain ⟨h7, hq⟩ := hq
    let r8 : Int32 := xp_Search_soonestUnsettled u y4
    refine call_vir (rest := []) ⟨hx, hb, hml, hown, htG⟩ nestW_ok hK hN hA (xc_Search_soonestUnsettled l D a k3 u y4 h7) (cwV 1 htG (tb_V tb_315 tb_317 tb_2 tb_25 tb_318) rfl rfl rfl (by decide +kernel) ⟨Nat.le_of_ble_eq_true rfl, Nat.le_of_ble_eq_true rfl⟩) (ci := 4) rfl (xo_5 a k3 u) rfl hw rfl hl.1 rfl (Nat.le_of_ble_eq_true rfl) dX4_explore_33 ⟨Nat.zero_le _, Nat.zero_le _⟩ (fun H locs (hw : wd D vwCl (xC a k3) A s.heap u H locs) => ?_)
    refine lv_istore (lv' := [(6, .int r8), (0, .ref (a 5)), (1, .ref (a 1)), (4, .int y4), (5, .int y5)]) hx hb dX4_explore_36 hl (by decide) rfl (fun ls hl => ?_)
    refine lv_iload hx hb dX4_explore_38 (lv_at hl 0 rfl) ?_
    refine lv_iconst (v := -1) hx hb dX4_explore_40 (by decide) ?_
    refine lv_icmp_ne (tgt := 45) hx hb dX4_explore_41 (by decide) (fun c9 => ?_) (fun c9 => ?_)
    · have hP := (if_neg c9).symm.trans hP
      have hq := hq c9
      refine lv_aload_n hx hb dX4_explore_45 rfl (lv_at hl 1 rfl) ?_
      refine va_get (D := D) (ci := 4) (v := .ref (a 24)) (C := RX4) (T := TX4) (N := 6) hx hb htG in_4 hown hK hw.1 5 (xo_5 a k3 u) rfl 1 (by decide) f_15 (fun _ h9 => h9) rfl dX4_explore_46 ?_
      refine lv_iload hx hb dX4_explore_49 (lv_at hl 0 rfl) ?_
      refine lv_iconst (v := 1) hx hb dX4_explore_51 (by decide) ?_
      obtain ⟨h10, hq⟩ := hq
      let u11 : S4 := s4_wz u 11 r8 (1 : Int32)
      refine y_zast (t0 := 2) hx hb hK hw 11 (xo_24 a k3 u) (xq_24 a k3 u) rfl h10 dX4_explore_52 (fun H locs (hw : wd D vwCl (xC a k3) A s.heap u11 H locs) => ?_)
      refine lv_aload_n hx hb dX4_explore_53 rfl (lv_at hl 1 rfl) ?_
      refine va_get (D := D) (ci := 4) (v := .ref (a 26)) (C := RX4) (T := TX4) (N := 6) hx hb htG in_4 hown hK hw.1 5 (xo_5 a k3 u11) rfl 3 (by decide) f_22 (fun _ h9 => h9) rfl dX4_explore_54 ?_
      refine lv_iload hx hb dX4_explore_57 (lv_at hl 4 rfl) ?_
      refine lv_iload hx hb dX4_explore_59 (lv_at hl 0 rfl) ?_
      obtain ⟨h12, hq⟩ := hq
      let u13 : S4 := s4_wa u11 13 y5 r8
      refine y_iast (t0 := 0) hx hb hK hw 13 (xo_26 a k3 u11) (xq_26 a k3 u11) rfl h12 dX4_explore_61 (fun H locs (hw : wd D vwCl (xC a k3) A s.heap u13 H locs) => ?_)
      refine lv_aload_n hx hb dX4_explore_62 rfl (lv_at hl 1 rfl) ?_
      refine lv_iload hx hb dX4_explore_63 (lv_at hl 4 rfl) ?_
      refine lv_iconst (v := 1) hx hb dX4_explore_65 (by decide) ?_
      refine lv_iadd hx hb dX4_explore_66 ?_
      let v14 : Int32 := (y5 + (1 : Int32))
      let u15 : S4 := s4_si u13 2 v14
      refine y_puti hx hb htG in_4 tyX4 tyX4_ok nX4 hown hK hw 2 (xo_5 a k3 u13) rfl 5 (by decide) f_28 (fun _ h9 => h9) rfl (by decide +kernel) (Nat.le_of_ble_eq_true rfl) (xt_i2 a k3 u13 v14) dX4_explore_67 (fun H locs (hw : wd D vwCl (xC a k3) A s.heap u15 H locs) => ?_)
      refine lv_aload_n hx hb dX4_explore_70 rfl (lv_at hl 1 rfl) ?_
      refine lv_aload_n hx hb dX4_explore_71 rfl (lv_at hl 2 rfl) ?_
      refine lv_iload hx hb dX4_explore_72 (lv_at hl 0 rfl) ?_
      obtain ⟨h16, hq⟩ := hq
      let u17 : S4 := xp_Search_goOnFrom u15 r8
      refine call_vv (rest := []) ⟨hx, hb, hml, hown, htG⟩ nestW_ok hK hN hA (xc_Search_goOnFrom l D a k3 u15 r8 h16) (cwV 2 htG (tb_V tb_319 tb_321 tb_3 tb_25 tb_322) rfl rfl rfl (by decide +kernel) ⟨Nat.le_of_ble_eq_true rfl, Nat.le_of_ble_eq_true rfl⟩) (ci := 4) rfl (xo_5 a k3 u15) rfl hw rfl hl.1 rfl (Nat.le_of_ble_eq_true rfl) dX4_explore_74 ⟨Nat.zero_le _, Nat.zero_le _⟩ (fun H locs (hw : wd D vwCl (xC a k3) A s.heap u17 H locs) => ?_)
      let v18 : Int32 := (y5 + (1 : Int32))
      refine lv_iinc (v := v18) (lv' := [(5, .int v18), (6, .int r8), (0, .ref (a 5)), (1, .ref (a 1)), (4, .int y4)]) hx hb dX4_explore_77 hl (k := 4) rfl rfl (by decide) rfl (fun ls hl => ?_)
      refine lv_goto (tgt := 23) hx hb dX4_explore_80 (by decide) ?_
      exact hK23 u17 (y4) (v18) H locs ls hq hP hw (lv_sub hl [2, 3, 4, 0] rfl)
    · have hP := (if_pos c9).symm.trans hP
      exact ret_v hx hb hr hlocks hw dX4_explore_44 hP
set_option maxHeartbeats 4000000 in
set_option maxRecDepth 100000 in
theorem xw_Search_explore_23 (l : Launch) (D : va_G) (a : Nat → Nat) (k3 : K3) {p : Program} {e : Env} {s : State} {m : MethodId} {below : List Frame} {meth : Method} {c : Code} {A : Nat → Prop} (av : Array Value) (F : Fx p s m meth c av cX4_explore 7 none yX4_explore.cls (kX4_explore :: tbG) D vwCl (ty3 k3) nestW A) (P : S4) : ∀ (n : Nat), ∀ (u : S4) (y4 : Int32) (y5 : Int32) (H : Heap) (locs : List Loc) (ls : Array Slot), xLq_Search_explore_23 n u y4 y5 → xL_Search_explore_23 n u y4 y5 = P → wd D vwCl (xC a k3) A s.heap u H locs → lv_has ls 7 [(0, .ref (a 5)), (1, .ref (a 1)), (4, .int y4), (5, .int y5)] → W p l e rm_xSearch_explore s m av below meth c H locs 0 0 (QV below D vwCl (xC a k3) A av s P) (F0 m 23 ls []) := by
  intro n
  induction n with
  | zero => intro u y4 y5 H locs ls hq hP hw hl; exact hq.elim
  | succ n ih => intro u y4 y5 H locs ls hq hP hw hl; exact xs_Search_explore_23 l D a k3 av F P (xL_Search_explore_23 n) (xLq_Search_explore_23 n) ih u y4 y5 H locs ls hq hP hw hl
def xp_Search_explore (u : S4) (x2 : Int32) (x3 : Int32) : S4 :=
  let u2 : S4 := xp_Search_forget u
  let u4 : S4 := s4_wa u2 10 x2 x3
  let r5 : Int32 := xp_Streets_sides u4
  xL_Search_explore_23 64 u4 r5 (0 : Int32)
def xq_Search_explore (u : S4) (x2 : Int32) (x3 : Int32) : Prop :=
  xq_Search_forget u ∧
  let u2 : S4 := xp_Search_forget u
  vp_in x2 24 ∧
  let u4 : S4 := s4_wa u2 10 x2 x3
  let r5 : Int32 := xp_Streets_sides u4
  xLq_Search_explore_23 64 u4 r5 (0 : Int32)
set_option maxHeartbeats 4000000 in
set_option maxRecDepth 100000 in
theorem xc_Search_explore (l : Launch) (D : va_G) (a : Nat → Nat) (k3 : K3) (u : S4) (x2 : Int32) (x3 : Int32) (hq : xq_Search_explore u x2 x3) : MV l D vwCl (ty3 k3) nestW (xC a k3) yX4_explore (kX4_explore :: tbG) rm_xSearch_explore [.ref (a 5), .ref (a 1), .int x2, .int x3] u (xp_Search_explore u x2 x3) := by
  refine mkV (cc := cX4_explore) (maxL := 7) (ret := none) (by decide) rfl (Nat.le_of_ble_eq_true rfl) ?_
  intro p e s m below meth c A ls F hw hl
  generalize hav : ([.ref (a 5), .ref (a 1), .int x2, .int x3] : List Value).toArray = av at F ⊢
  have hl : lv_has ls 7 [(0, .ref (a 5)), (1, .ref (a 1)), (2, .int x2), (3, .int x3)] := hl
  obtain ⟨hx, hb, hr, hml, hown, hts, hK, hN, hlocks, hA⟩ := id F
  have hown : s.vm.findClass RX4 = some m.cls := hown
  have htG : ∀ w ∈ tbG, w.before av s = true := fun w h => hts w (List.mem_cons_of_mem _ h)
  have f_9 := htG _ tb_140
  have f_35 := va_Nw.use (A := av) rfl (hN _ nw_5)
  have hgo : ∀ P, xp_Search_explore u x2 x3 = P → ∀ (H : Heap) (locs : List Loc), wd D vwCl (xC a k3) A s.heap u H locs → W p l e rm_xSearch_explore s m av below meth c H locs 0 0 (QV below D vwCl (xC a k3) A av s P) (F0 m 0 ls []) := by
    intro P hP H locs hw
    refine lv_aload_n hx hb dX4_explore_0 rfl (lv_at hl 0 rfl) ?_
    obtain ⟨h1, hq⟩ := hq
    let u2 : S4 := xp_Search_forget u
    refine call_vv (rest := []) ⟨hx, hb, hml, hown, htG⟩ nestW_ok hK hN hA (xc_Search_forget l D a k3 u h1) (cwV 0 htG (tb_V tb_306 tb_308 tb_1 tb_25 tb_309) rfl rfl rfl (by decide +kernel) ⟨Nat.le_of_ble_eq_true rfl, Nat.le_of_ble_eq_true rfl⟩) (ci := 4) rfl (xo_5 a k3 u) rfl hw rfl hl.1 rfl (Nat.le_of_ble_eq_true rfl) dX4_explore_1 ⟨Nat.zero_le _, Nat.zero_le _⟩ (fun H locs (hw : wd D vwCl (xC a k3) A s.heap u2 H locs) => ?_)
    refine lv_aload_n hx hb dX4_explore_4 rfl (lv_at hl 0 rfl) ?_
    refine va_get (D := D) (ci := 4) (v := .ref (a 23)) (C := RX4) (T := TX4) (N := 6) hx hb htG in_4 hown hK hw.1 5 (xo_5 a k3 u2) rfl 0 (by decide) f_9 (fun _ h9 => h9) rfl dX4_explore_5 ?_
    refine lv_iload_n hx hb dX4_explore_8 rfl (lv_at hl 2 rfl) ?_
    refine lv_iload_n hx hb dX4_explore_9 rfl (lv_at hl 3 rfl) ?_
    obtain ⟨h3, hq⟩ := hq
    let u4 : S4 := s4_wa u2 10 x2 x3
    refine y_iast (t0 := 0) hx hb hK hw 10 (xo_23 a k3 u2) (xq_23 a k3 u2) rfl h3 dX4_explore_10 (fun H locs (hw : wd D vwCl (xC a k3) A s.heap u4 H locs) => ?_)
    refine lv_aload_n hx hb dX4_explore_11 rfl (lv_at hl 1 rfl) ?_
    refine va_getN (D := D) (ci := 2) (v := .ref (a 3)) (C := RX2) (T := TX2) (N := 5) hx hb htG in_2 hown hK hw.1 1 (xo_1 a k3 u4) rfl 1 (by decide) f_35 (fun _ h9 => h9) rfl dX4_explore_12 ?_
    let r5 : Int32 := xp_Streets_sides u4
    refine call_vir (rest := []) ⟨hx, hb, hml, hown, htG⟩ nestW_ok hK hN hA (xc_Streets_sides l D a k3 u4) (cwV 0 htG (tb_V tb_311 tb_312 tb_313 tb_23 tb_314) rfl rfl rfl (by decide +kernel) ⟨Nat.le_of_ble_eq_true rfl, Nat.le_of_ble_eq_true rfl⟩) (ci := 5) rfl (xo_3 a k3 u4) rfl hw rfl hl.1 rfl (Nat.le_of_ble_eq_true rfl) dX4_explore_15 ⟨Nat.zero_le _, Nat.zero_le _⟩ (fun H locs (hw : wd D vwCl (xC a k3) A s.heap u4 H locs) => ?_)
    refine lv_istore (lv' := [(4, .int r5), (0, .ref (a 5)), (1, .ref (a 1)), (2, .int x2), (3, .int x3)]) hx hb dX4_explore_18 hl (by decide) rfl (fun ls hl => ?_)
    refine lv_iconst (v := 0) hx hb dX4_explore_20 (by decide) ?_
    refine lv_istore (lv' := [(5, .int (0 : Int32)), (4, .int r5), (0, .ref (a 5)), (1, .ref (a 1)), (2, .int x2), (3, .int x3)]) hx hb dX4_explore_21 hl (by decide) rfl (fun ls hl => ?_)
    exact xw_Search_explore_23 l D a k3 av F P 64 u4 r5 (0 : Int32) H locs ls hq hP hw (lv_sub hl [2, 3, 1, 0] rfl)
  exact hgo _ rfl s.heap [] hw
theorem dX4_comesTo_0 : decode cX4_comesTo 0 = .ok (.aload_n 0, 1) := by decide +kernel
theorem dX4_comesTo_1 : decode cX4_comesTo 1 = .ok (.getfield 9, 3) := by decide +kernel
theorem dX4_comesTo_4 : decode cX4_comesTo 4 = .ok (.iload_n 1, 1) := by decide +kernel
theorem dX4_comesTo_5 : decode cX4_comesTo 5 = .ok (.iaload, 1) := by decide +kernel
theorem dX4_comesTo_6 : decode cX4_comesTo 6 = .ok (.ldc 55, 2) := by decide +kernel
theorem dX4_comesTo_8 : decode cX4_comesTo 8 = .ok (.if_icmp .eq 7, 3) := by decide +kernel
theorem dX4_comesTo_11 : decode cX4_comesTo 11 = .ok (.iconst 1, 1) := by decide +kernel
theorem dX4_comesTo_12 : decode cX4_comesTo 12 = .ok (.goto 4, 3) := by decide +kernel
theorem dX4_comesTo_15 : decode cX4_comesTo 15 = .ok (.iconst 0, 1) := by decide +kernel
theorem dX4_comesTo_16 : decode cX4_comesTo 16 = .ok (.ireturn, 1) := by decide +kernel
abbrev rm_xSearch_comesTo : Room := { frames := 0, cells := 0, slots := 0, locals := 0 }
def xp_Search_comesTo (u : S4) (x1 : Int32) : Int32 :=
  if (s4_ra u 10 x1) = (63244800 : Int32) then
    (0 : Int32)
  else
    (1 : Int32)
def xq_Search_comesTo (u : S4) (x1 : Int32) : Prop :=
  vp_in x1 24
set_option maxHeartbeats 4000000 in
set_option maxRecDepth 100000 in
theorem xc_Search_comesTo (l : Launch) (D : va_G) (a : Nat → Nat) (k3 : K3) (u : S4) (x1 : Int32) (hq : xq_Search_comesTo u x1) : MI l D vwCl (ty3 k3) nestW (xC a k3) yX4_comesTo (kX4_comesTo :: tbG) rm_xSearch_comesTo [.ref (a 5), .int x1] u (xp_Search_comesTo u x1, u) := by
  refine mkI (cc := cX4_comesTo) (maxL := 2) (ret := (some .boolean)) (by decide) rfl (Nat.le_of_ble_eq_true rfl) ?_
  intro p e s m below meth c A ls F hw hl
  generalize hav : ([.ref (a 5), .int x1] : List Value).toArray = av at F ⊢
  have hl : lv_has ls 2 [(0, .ref (a 5)), (1, .int x1)] := hl
  obtain ⟨hx, hb, hr, hml, hown, hts, hK, hN, hlocks, hA⟩ := id F
  have hown : s.vm.findClass RX4 = some m.cls := hown
  have htG : ∀ w ∈ tbG, w.before av s = true := fun w h => hts w (List.mem_cons_of_mem _ h)
  have f_9 := htG _ tb_140
  have k_55 := htG _ tb_310
  have hgo : ∀ P, xp_Search_comesTo u x1 = P → ∀ (H : Heap) (locs : List Loc), wd D vwCl (xC a k3) A s.heap u H locs → W p l e rm_xSearch_comesTo s m av below meth c H locs 0 0 (QI below D vwCl (xC a k3) A av s (P, u)) (F0 m 0 ls []) := by
    intro P hP H locs hw
    refine lv_aload_n hx hb dX4_comesTo_0 rfl (lv_at hl 0 rfl) ?_
    refine va_get (D := D) (ci := 4) (v := .ref (a 23)) (C := RX4) (T := TX4) (N := 6) hx hb htG in_4 hown hK hw.1 5 (xo_5 a k3 u) rfl 0 (by decide) f_9 (fun _ h9 => h9) rfl dX4_comesTo_1 ?_
    refine lv_iload_n hx hb dX4_comesTo_4 rfl (lv_at hl 1 rfl) ?_
    have h1 := hq
    refine y_iald (t0 := 0) hx hb hK hw 10 (xo_23 a k3 u) rfl h1 dX4_comesTo_5 ?_
    refine lv_ldc (v := 63244800) hx hb hown k_55 dX4_comesTo_6 ?_
    refine lv_icmp_eq (tgt := 15) hx hb dX4_comesTo_8 (by decide) (fun c2 => ?_) (fun c2 => ?_)
    · have hP := (if_pos c2).symm.trans hP
      refine lv_iconst (v := 0) hx hb dX4_comesTo_15 (by decide) ?_
      exact ret_z hx hb hr hlocks hw rfl dX4_comesTo_16 (congrArg (fun z => (z, u)) hP)
    · have hP := (if_neg c2).symm.trans hP
      refine lv_iconst (v := 1) hx hb dX4_comesTo_11 (by decide) ?_
      refine lv_goto (tgt := 16) hx hb dX4_comesTo_12 (by decide) ?_
      exact ret_z hx hb hr hlocks hw rfl dX4_comesTo_16 (congrArg (fun z => (z, u)) hP)
  exact hgo _ rfl s.heap [] hw
theorem dX4_firstLeading_0 : decode cX4_firstLeading 0 = .ok (.iconst 0, 1) := by decide +kernel
theorem dX4_firstLeading_1 : decode cX4_firstLeading 1 = .ok (.istore_n 3, 1) := by decide +kernel
theorem dX4_firstLeading_2 : decode cX4_firstLeading 2 = .ok (.iload_n 3, 1) := by decide +kernel
theorem dX4_firstLeading_3 : decode cX4_firstLeading 3 = .ok (.aload_n 1, 1) := by decide +kernel
theorem dX4_firstLeading_4 : decode cX4_firstLeading 4 = .ok (.getfield 35, 3) := by decide +kernel
theorem dX4_firstLeading_7 : decode cX4_firstLeading 7 = .ok (.invokevirtual 41, 3) := by decide +kernel
theorem dX4_firstLeading_10 : decode cX4_firstLeading 10 = .ok (.if_icmp .ge 41, 3) := by decide +kernel
theorem dX4_firstLeading_13 : decode cX4_firstLeading 13 = .ok (.aload_n 0, 1) := by decide +kernel
theorem dX4_firstLeading_14 : decode cX4_firstLeading 14 = .ok (.getfield 19, 3) := by decide +kernel
theorem dX4_firstLeading_17 : decode cX4_firstLeading 17 = .ok (.iload_n 3, 1) := by decide +kernel
theorem dX4_firstLeading_18 : decode cX4_firstLeading 18 = .ok (.baload, 1) := by decide +kernel
theorem dX4_firstLeading_19 : decode cX4_firstLeading 19 = .ok (.ifCond .eq 26, 3) := by decide +kernel
theorem dX4_firstLeading_22 : decode cX4_firstLeading 22 = .ok (.aload_n 1, 1) := by decide +kernel
theorem dX4_firstLeading_23 : decode cX4_firstLeading 23 = .ok (.iload_n 2, 1) := by decide +kernel
theorem dX4_firstLeading_24 : decode cX4_firstLeading 24 = .ok (.iload_n 3, 1) := by decide +kernel
theorem dX4_firstLeading_25 : decode cX4_firstLeading 25 = .ok (.aload_n 0, 1) := by decide +kernel
theorem dX4_firstLeading_26 : decode cX4_firstLeading 26 = .ok (.getfield 9, 3) := by decide +kernel
theorem dX4_firstLeading_29 : decode cX4_firstLeading 29 = .ok (.iload_n 2, 1) := by decide +kernel
theorem dX4_firstLeading_30 : decode cX4_firstLeading 30 = .ok (.iaload, 1) := by decide +kernel
theorem dX4_firstLeading_31 : decode cX4_firstLeading 31 = .ok (.invokevirtual 56, 3) := by decide +kernel
theorem dX4_firstLeading_34 : decode cX4_firstLeading 34 = .ok (.aload_n 0, 1) := by decide +kernel
theorem dX4_firstLeading_35 : decode cX4_firstLeading 35 = .ok (.getfield 9, 3) := by decide +kernel
theorem dX4_firstLeading_38 : decode cX4_firstLeading 38 = .ok (.iload_n 3, 1) := by decide +kernel
theorem dX4_firstLeading_39 : decode cX4_firstLeading 39 = .ok (.iaload, 1) := by decide +kernel
theorem dX4_firstLeading_40 : decode cX4_firstLeading 40 = .ok (.if_icmp .ne 5, 3) := by decide +kernel
theorem dX4_firstLeading_43 : decode cX4_firstLeading 43 = .ok (.iload_n 3, 1) := by decide +kernel
theorem dX4_firstLeading_44 : decode cX4_firstLeading 44 = .ok (.ireturn, 1) := by decide +kernel
theorem dX4_firstLeading_45 : decode cX4_firstLeading 45 = .ok (.iinc 3 1, 3) := by decide +kernel
theorem dX4_firstLeading_48 : decode cX4_firstLeading 48 = .ok (.goto (-46), 3) := by decide +kernel
theorem dX4_firstLeading_51 : decode cX4_firstLeading 51 = .ok (.iconst (-1), 1) := by decide +kernel
theorem dX4_firstLeading_52 : decode cX4_firstLeading 52 = .ok (.ireturn, 1) := by decide +kernel
abbrev rm_xSearch_firstLeading : Room := { frames := 4, cells := 0, slots := 0, locals := 95 }
def xB_Search_firstLeading_2 (u : S4) (K2 : Int32 → Int32 → Int32) (y2 : Int32) (y3 : Int32) : Int32 :=
  let r1 : Int32 := xp_Streets_sides u
  if r1 ≤ y3 then
    (-1 : Int32)
  else
    if (s4_ra u 12 y3) = (0 : Int32) then
      let v5 : Int32 := (y3 + (1 : Int32))
      K2 y2 v5
    else
      let r8 : Int32 := xp_Net_endBehind u y2 y3 (s4_ra u 10 y2)
      if r8 = (s4_ra u 10 y3) then
        y3
      else
        let v11 : Int32 := (y3 + (1 : Int32))
        K2 y2 v11
def xL_Search_firstLeading_2 (u : S4) : Nat → Int32 → Int32 → Int32
  | 0 => fun _ _ => 0
  | n + 1 => xB_Search_firstLeading_2 u (xL_Search_firstLeading_2 u n)
def xBq_Search_firstLeading_2 (u : S4) (Q2 : Int32 → Int32 → Prop) (y2 : Int32) (y3 : Int32) : Prop :=
  let r1 : Int32 := xp_Streets_sides u
  (¬ r1 ≤ y3 →
    vp_in y3 24 ∧
    (((s4_ra u 12 y3) = (0 : Int32) →
      let v5 : Int32 := (y3 + (1 : Int32))
      Q2 y2 v5) ∧ (¬ (s4_ra u 12 y3) = (0 : Int32) →
      vp_in y2 24 ∧
      xq_Net_endBehind u y2 y3 (s4_ra u 10 y2) ∧
      let r8 : Int32 := xp_Net_endBehind u y2 y3 (s4_ra u 10 y2)
      vp_in y3 24 ∧
      (¬ r8 = (s4_ra u 10 y3) →
        let v11 : Int32 := (y3 + (1 : Int32))
        Q2 y2 v11))))
def xLq_Search_firstLeading_2 (u : S4) : Nat → Int32 → Int32 → Prop
  | 0 => fun _ _ => False
  | n + 1 => xBq_Search_firstLeading_2 u (xLq_Search_firstLeading_2 u n)
set_option maxHeartbeats 4000000 in
set_option maxRecDepth 100000 in
theorem xs_Search_firstLeading_2 (l : Launch) (D : va_G) (a : Nat → Nat) (k3 : K3) {p : Program} {e : Env} {s : State} {m : MethodId} {below : List Frame} {meth : Method} {c : Code} {A : Nat → Prop} (av : Array Value) (F : Fx p s m meth c av cX4_firstLeading 4 (some .int) yX4_firstLeading.cls (kX4_firstLeading :: tbG) D vwCl (ty3 k3) nestW A) (P : Int32) (u : S4) (K2 : Int32 → Int32 → Int32) (Q2 : Int32 → Int32 → Prop) (hK2 : ∀ (y2 : Int32) (y3 : Int32) (H : Heap) (locs : List Loc) (ls : Array Slot), Q2 y2 y3 → K2 y2 y3 = P → wd D vwCl (xC a k3) A s.heap u H locs → lv_has ls 4 [(0, .ref (a 5)), (1, .ref (a 1)), (2, .int y2), (3, .int y3)] → W p l e rm_xSearch_firstLeading s m av below meth c H locs 0 0 (QI below D vwCl (xC a k3) A av s (P, u)) (F0 m 2 ls [])) : ∀ (y2 : Int32) (y3 : Int32) (H : Heap) (locs : List Loc) (ls : Array Slot), xBq_Search_firstLeading_2 u Q2 y2 y3 → xB_Search_firstLeading_2 u K2 y2 y3 = P → wd D vwCl (xC a k3) A s.heap u H locs → lv_has ls 4 [(0, .ref (a 5)), (1, .ref (a 1)), (2, .int y2), (3, .int y3)] → W p l e rm_xSearch_firstLeading s m av below meth c H locs 0 0 (QI below D vwCl (xC a k3) A av s (P, u)) (F0 m 2 ls []) := by
  obtain ⟨hx, hb, hr, hml, hown, hts, hK, hN, hlocks, hA⟩ := id F
  have hown : s.vm.findClass RX4 = some m.cls := hown
  have htG : ∀ w ∈ tbG, w.before av s = true := fun w h => hts w (List.mem_cons_of_mem _ h)
  have f_35 := va_Nw.use (A := av) rfl (hN _ nw_5)
  have f_19 := htG _ tb_142
  have f_9 := htG _ tb_140
  intro y2 y3 H locs ls hq hP hw hl
  refine lv_iload_n hx hb dX4_firstLeading_2 rfl (lv_at hl 3 rfl) ?_
  refine lv_aload_n hx hb dX4_firstLeading_3 rfl (lv_at hl 1 rfl) ?_
  refine va_getN (D := D) (ci := 2) (v := .ref (a 3)) (C := RX2) (T := TX2) (N := 5) hx hb htG in_2 hown hK hw.1 1 (xo_1 a k3 u) rfl 1 (by decide) f_35 (fun _ h9 => h9) rfl dX4_firstLeading_4 ?_
  let r1 : Int32 := xp_Streets_sides u
  refine call_vir (rest := [.int y3]) ⟨hx, hb, hml, hown, htG⟩ nestW_ok hK hN hA (xc_Streets_sides l D a k3 u) (cwV 0 htG (tb_V tb_311 tb_312 tb_313 tb_23 tb_314) rfl rfl rfl (by decide +kernel) ⟨Nat.le_of_ble_eq_true rfl, Nat.le_of_ble_eq_true rfl⟩) (ci := 5) rfl (xo_3 a k3 u) rfl hw rfl hl.1 rfl (Nat.le_of_ble_eq_true rfl) dX4_firstLeading_7 ⟨Nat.zero_le _, Nat.zero_le _⟩ (fun H locs (hw : wd D vwCl (xC a k3) A s.heap u H locs) => ?_)
  refine lv_icmp_ge (tgt := 51) hx hb dX4_firstLeading_10 (by decide) (fun c2 => ?_) (fun c2 => ?_)
  · have hP := (if_pos c2).symm.trans hP
    refine lv_iconst (v := -1) hx hb dX4_firstLeading_51 (by decide) ?_
    exact ret_i hx hb hr hlocks hw dX4_firstLeading_52 (congrArg (fun z => (z, u)) hP)
  · have hP := (if_neg c2).symm.trans hP
    have hq := hq c2
    refine lv_aload_n hx hb dX4_firstLeading_13 rfl (lv_at hl 0 rfl) ?_
    refine va_get (D := D) (ci := 4) (v := .ref (a 25)) (C := RX4) (T := TX4) (N := 6) hx hb htG in_4 hown hK hw.1 5 (xo_5 a k3 u) rfl 2 (by decide) f_19 (fun _ h9 => h9) rfl dX4_firstLeading_14 ?_
    refine lv_iload_n hx hb dX4_firstLeading_17 rfl (lv_at hl 3 rfl) ?_
    obtain ⟨h3, hq⟩ := hq
    refine y_zald (t0 := 2) hx hb hK hw 12 (xo_25 a k3 u) rfl h3 dX4_firstLeading_18 ?_
    refine lv_if_eq (tgt := 45) hx hb dX4_firstLeading_19 (by decide) (fun c4 => ?_) (fun c4 => ?_)
    · have hP := (if_pos c4).symm.trans hP
      have hq := hq.1 c4
      let v5 : Int32 := (y3 + (1 : Int32))
      refine lv_iinc (v := v5) (lv' := [(3, .int v5), (0, .ref (a 5)), (1, .ref (a 1)), (2, .int y2)]) hx hb dX4_firstLeading_45 hl (k := 3) rfl rfl (by decide) rfl (fun ls hl => ?_)
      refine lv_goto (tgt := 2) hx hb dX4_firstLeading_48 (by decide) ?_
      exact hK2 (y2) (v5) H locs ls hq hP hw (lv_sub hl [1, 2, 3, 0] rfl)
    · have hP := (if_neg c4).symm.trans hP
      have hq := hq.2 c4
      refine lv_aload_n hx hb dX4_firstLeading_22 rfl (lv_at hl 1 rfl) ?_
      refine lv_iload_n hx hb dX4_firstLeading_23 rfl (lv_at hl 2 rfl) ?_
      refine lv_iload_n hx hb dX4_firstLeading_24 rfl (lv_at hl 3 rfl) ?_
      refine lv_aload_n hx hb dX4_firstLeading_25 rfl (lv_at hl 0 rfl) ?_
      refine va_get (D := D) (ci := 4) (v := .ref (a 23)) (C := RX4) (T := TX4) (N := 6) hx hb htG in_4 hown hK hw.1 5 (xo_5 a k3 u) rfl 0 (by decide) f_9 (fun _ h9 => h9) rfl dX4_firstLeading_26 ?_
      refine lv_iload_n hx hb dX4_firstLeading_29 rfl (lv_at hl 2 rfl) ?_
      obtain ⟨h6, hq⟩ := hq
      refine y_iald (t0 := 0) hx hb hK hw 10 (xo_23 a k3 u) rfl h6 dX4_firstLeading_30 ?_
      obtain ⟨h7, hq⟩ := hq
      let r8 : Int32 := xp_Net_endBehind u y2 y3 (s4_ra u 10 y2)
      refine call_vir (rest := []) ⟨hx, hb, hml, hown, htG⟩ nestW_ok hK hN hA (xc_Net_endBehind l D a k3 u y2 y3 (s4_ra u 10 y2) h7) (cwV 3 htG (tb_V tb_323 tb_324 tb_325 tb_21 tb_326) rfl rfl rfl (by decide +kernel) ⟨Nat.le_of_ble_eq_true rfl, Nat.le_of_ble_eq_true rfl⟩) (ci := 2) rfl (xo_1 a k3 u) rfl hw rfl hl.1 rfl (Nat.le_of_ble_eq_true rfl) dX4_firstLeading_31 ⟨Nat.zero_le _, Nat.zero_le _⟩ (fun H locs (hw : wd D vwCl (xC a k3) A s.heap u H locs) => ?_)
      refine lv_aload_n hx hb dX4_firstLeading_34 rfl (lv_at hl 0 rfl) ?_
      refine va_get (D := D) (ci := 4) (v := .ref (a 23)) (C := RX4) (T := TX4) (N := 6) hx hb htG in_4 hown hK hw.1 5 (xo_5 a k3 u) rfl 0 (by decide) f_9 (fun _ h9 => h9) rfl dX4_firstLeading_35 ?_
      refine lv_iload_n hx hb dX4_firstLeading_38 rfl (lv_at hl 3 rfl) ?_
      obtain ⟨h9, hq⟩ := hq
      refine y_iald (t0 := 0) hx hb hK hw 10 (xo_23 a k3 u) rfl h9 dX4_firstLeading_39 ?_
      refine lv_icmp_ne (tgt := 45) hx hb dX4_firstLeading_40 (by decide) (fun c10 => ?_) (fun c10 => ?_)
      · have hP := (if_neg c10).symm.trans hP
        have hq := hq c10
        let v11 : Int32 := (y3 + (1 : Int32))
        refine lv_iinc (v := v11) (lv' := [(3, .int v11), (0, .ref (a 5)), (1, .ref (a 1)), (2, .int y2)]) hx hb dX4_firstLeading_45 hl (k := 3) rfl rfl (by decide) rfl (fun ls hl => ?_)
        refine lv_goto (tgt := 2) hx hb dX4_firstLeading_48 (by decide) ?_
        exact hK2 (y2) (v11) H locs ls hq hP hw (lv_sub hl [1, 2, 3, 0] rfl)
      · have hP := (if_pos c10).symm.trans hP
        refine lv_iload_n hx hb dX4_firstLeading_43 rfl (lv_at hl 3 rfl) ?_
        exact ret_i hx hb hr hlocks hw dX4_firstLeading_44 (congrArg (fun z => (z, u)) hP)
set_option maxHeartbeats 4000000 in
set_option maxRecDepth 100000 in
theorem xw_Search_firstLeading_2 (l : Launch) (D : va_G) (a : Nat → Nat) (k3 : K3) {p : Program} {e : Env} {s : State} {m : MethodId} {below : List Frame} {meth : Method} {c : Code} {A : Nat → Prop} (av : Array Value) (F : Fx p s m meth c av cX4_firstLeading 4 (some .int) yX4_firstLeading.cls (kX4_firstLeading :: tbG) D vwCl (ty3 k3) nestW A) (P : Int32) (u : S4) : ∀ (n : Nat), ∀ (y2 : Int32) (y3 : Int32) (H : Heap) (locs : List Loc) (ls : Array Slot), xLq_Search_firstLeading_2 u n y2 y3 → xL_Search_firstLeading_2 u n y2 y3 = P → wd D vwCl (xC a k3) A s.heap u H locs → lv_has ls 4 [(0, .ref (a 5)), (1, .ref (a 1)), (2, .int y2), (3, .int y3)] → W p l e rm_xSearch_firstLeading s m av below meth c H locs 0 0 (QI below D vwCl (xC a k3) A av s (P, u)) (F0 m 2 ls []) := by
  intro n
  induction n with
  | zero => intro y2 y3 H locs ls hq hP hw hl; exact hq.elim
  | succ n ih => intro y2 y3 H locs ls hq hP hw hl; exact xs_Search_firstLeading_2 l D a k3 av F P u (xL_Search_firstLeading_2 u n) (xLq_Search_firstLeading_2 u n) ih y2 y3 H locs ls hq hP hw hl
def xp_Search_firstLeading (u : S4) (x2 : Int32) : Int32 :=
  xL_Search_firstLeading_2 u 64 x2 (0 : Int32)
def xq_Search_firstLeading (u : S4) (x2 : Int32) : Prop :=
  xLq_Search_firstLeading_2 u 64 x2 (0 : Int32)
set_option maxHeartbeats 4000000 in
set_option maxRecDepth 100000 in
theorem xc_Search_firstLeading (l : Launch) (D : va_G) (a : Nat → Nat) (k3 : K3) (u : S4) (x2 : Int32) (hq : xq_Search_firstLeading u x2) : MI l D vwCl (ty3 k3) nestW (xC a k3) yX4_firstLeading (kX4_firstLeading :: tbG) rm_xSearch_firstLeading [.ref (a 5), .ref (a 1), .int x2] u (xp_Search_firstLeading u x2, u) := by
  refine mkI (cc := cX4_firstLeading) (maxL := 4) (ret := (some .int)) (by decide) rfl (Nat.le_of_ble_eq_true rfl) ?_
  intro p e s m below meth c A ls F hw hl
  generalize hav : ([.ref (a 5), .ref (a 1), .int x2] : List Value).toArray = av at F ⊢
  have hl : lv_has ls 4 [(0, .ref (a 5)), (1, .ref (a 1)), (2, .int x2)] := hl
  obtain ⟨hx, hb, hr, hml, hown, hts, hK, hN, hlocks, hA⟩ := id F
  have hown : s.vm.findClass RX4 = some m.cls := hown
  have htG : ∀ w ∈ tbG, w.before av s = true := fun w h => hts w (List.mem_cons_of_mem _ h)
  have hgo : ∀ P, xp_Search_firstLeading u x2 = P → ∀ (H : Heap) (locs : List Loc), wd D vwCl (xC a k3) A s.heap u H locs → W p l e rm_xSearch_firstLeading s m av below meth c H locs 0 0 (QI below D vwCl (xC a k3) A av s (P, u)) (F0 m 0 ls []) := by
    intro P hP H locs hw
    refine lv_iconst (v := 0) hx hb dX4_firstLeading_0 (by decide) ?_
    refine lv_istore_n (lv' := [(3, .int (0 : Int32)), (0, .ref (a 5)), (1, .ref (a 1)), (2, .int x2)]) hx hb dX4_firstLeading_1 rfl hl (by decide) rfl (fun ls hl => ?_)
    exact xw_Search_firstLeading_2 l D a k3 av F P u 64 x2 (0 : Int32) H locs ls hq hP hw (lv_sub hl [1, 2, 3, 0] rfl)
  exact hgo _ rfl s.heap [] hw
theorem dX4_markLeading_0 : decode cX4_markLeading 0 = .ok (.aload_n 0, 1) := by decide +kernel
theorem dX4_markLeading_1 : decode cX4_markLeading 1 = .ok (.getfield 19, 3) := by decide +kernel
theorem dX4_markLeading_4 : decode cX4_markLeading 4 = .ok (.iload_n 2, 1) := by decide +kernel
theorem dX4_markLeading_5 : decode cX4_markLeading 5 = .ok (.iconst 1, 1) := by decide +kernel
theorem dX4_markLeading_6 : decode cX4_markLeading 6 = .ok (.bastore, 1) := by decide +kernel
theorem dX4_markLeading_7 : decode cX4_markLeading 7 = .ok (.aload_n 0, 1) := by decide +kernel
theorem dX4_markLeading_8 : decode cX4_markLeading 8 = .ok (.getfield 28, 3) := by decide +kernel
theorem dX4_markLeading_11 : decode cX4_markLeading 11 = .ok (.iconst 1, 1) := by decide +kernel
theorem dX4_markLeading_12 : decode cX4_markLeading 12 = .ok (.isub, 1) := by decide +kernel
theorem dX4_markLeading_13 : decode cX4_markLeading 13 = .ok (.istore_n 3, 1) := by decide +kernel
theorem dX4_markLeading_14 : decode cX4_markLeading 14 = .ok (.iload_n 3, 1) := by decide +kernel
theorem dX4_markLeading_15 : decode cX4_markLeading 15 = .ok (.ifCond .lt 36, 3) := by decide +kernel
theorem dX4_markLeading_18 : decode cX4_markLeading 18 = .ok (.aload_n 0, 1) := by decide +kernel
theorem dX4_markLeading_19 : decode cX4_markLeading 19 = .ok (.aload_n 1, 1) := by decide +kernel
theorem dX4_markLeading_20 : decode cX4_markLeading 20 = .ok (.aload_n 0, 1) := by decide +kernel
theorem dX4_markLeading_21 : decode cX4_markLeading 21 = .ok (.getfield 22, 3) := by decide +kernel
theorem dX4_markLeading_24 : decode cX4_markLeading 24 = .ok (.iload_n 3, 1) := by decide +kernel
theorem dX4_markLeading_25 : decode cX4_markLeading 25 = .ok (.iaload, 1) := by decide +kernel
theorem dX4_markLeading_26 : decode cX4_markLeading 26 = .ok (.invokevirtual 60, 3) := by decide +kernel
theorem dX4_markLeading_29 : decode cX4_markLeading 29 = .ok (.iconst (-1), 1) := by decide +kernel
theorem dX4_markLeading_30 : decode cX4_markLeading 30 = .ok (.if_icmp .eq 15, 3) := by decide +kernel
theorem dX4_markLeading_33 : decode cX4_markLeading 33 = .ok (.aload_n 0, 1) := by decide +kernel
theorem dX4_markLeading_34 : decode cX4_markLeading 34 = .ok (.getfield 19, 3) := by decide +kernel
theorem dX4_markLeading_37 : decode cX4_markLeading 37 = .ok (.aload_n 0, 1) := by decide +kernel
theorem dX4_markLeading_38 : decode cX4_markLeading 38 = .ok (.getfield 22, 3) := by decide +kernel
theorem dX4_markLeading_41 : decode cX4_markLeading 41 = .ok (.iload_n 3, 1) := by decide +kernel
theorem dX4_markLeading_42 : decode cX4_markLeading 42 = .ok (.iaload, 1) := by decide +kernel
theorem dX4_markLeading_43 : decode cX4_markLeading 43 = .ok (.iconst 1, 1) := by decide +kernel
theorem dX4_markLeading_44 : decode cX4_markLeading 44 = .ok (.bastore, 1) := by decide +kernel
theorem dX4_markLeading_45 : decode cX4_markLeading 45 = .ok (.iinc 3 (-1), 3) := by decide +kernel
theorem dX4_markLeading_48 : decode cX4_markLeading 48 = .ok (.goto (-34), 3) := by decide +kernel
theorem dX4_markLeading_51 : decode cX4_markLeading 51 = .ok (.return_, 1) := by decide +kernel
abbrev rm_xSearch_markLeading : Room := { frames := 5, cells := 0, slots := 0, locals := 118 }
def xB_Search_markLeading_14 (K14 : S4 → Int32 → S4) (u : S4) (y3 : Int32) : S4 :=
  if y3 < (0 : Int32) then
    u
  else
    let r7 : Int32 := xp_Search_firstLeading u (s4_ra u 13 y3)
    if r7 = (-1 : Int32) then
      let v9 : Int32 := (y3 + (-1 : Int32))
      K14 u v9
    else
      let u12 : S4 := s4_wz u 12 (s4_ra u 13 y3) (1 : Int32)
      let v13 : Int32 := (y3 + (-1 : Int32))
      K14 u12 v13
def xL_Search_markLeading_14 : Nat → S4 → Int32 → S4
  | 0 => fun u _ => u
  | n + 1 => xB_Search_markLeading_14 (xL_Search_markLeading_14 n)
def xBq_Search_markLeading_14 (Q14 : S4 → Int32 → Prop) (u : S4) (y3 : Int32) : Prop :=
  (¬ y3 < (0 : Int32) →
    vp_in y3 24 ∧
    xq_Search_firstLeading u (s4_ra u 13 y3) ∧
    let r7 : Int32 := xp_Search_firstLeading u (s4_ra u 13 y3)
    ((r7 = (-1 : Int32) →
      let v9 : Int32 := (y3 + (-1 : Int32))
      Q14 u v9) ∧ (¬ r7 = (-1 : Int32) →
      vp_in y3 24 ∧
      vp_in (s4_ra u 13 y3) 24 ∧
      let u12 : S4 := s4_wz u 12 (s4_ra u 13 y3) (1 : Int32)
      let v13 : Int32 := (y3 + (-1 : Int32))
      Q14 u12 v13)))
def xLq_Search_markLeading_14 : Nat → S4 → Int32 → Prop
  | 0 => fun _ _ => False
  | n + 1 => xBq_Search_markLeading_14 (xLq_Search_markLeading_14 n)
set_option maxHeartbeats 4000000 in
set_option maxRecDepth 100000 in
theorem xs_Search_markLeading_14 (l : Launch) (D : va_G) (a : Nat → Nat) (k3 : K3) {p : Program} {e : Env} {s : State} {m : MethodId} {below : List Frame} {meth : Method} {c : Code} {A : Nat → Prop} (av : Array Value) (F : Fx p s m meth c av cX4_markLeading 4 none yX4_markLeading.cls (kX4_markLeading :: tbG) D vwCl (ty3 k3) nestW A) (P : S4) (K14 : S4 → Int32 → S4) (Q14 : S4 → Int32 → Prop) (hK14 : ∀ (u : S4) (y3 : Int32) (H : Heap) (locs : List Loc) (ls : Array Slot), Q14 u y3 → K14 u y3 = P → wd D vwCl (xC a k3) A s.heap u H locs → lv_has ls 4 [(0, .ref (a 5)), (1, .ref (a 1)), (3, .int y3)] → W p l e rm_xSearch_markLeading s m av below meth c H locs 0 0 (QV below D vwCl (xC a k3) A av s P) (F0 m 14 ls [])) : ∀ (u : S4) (y3 : Int32) (H : Heap) (locs : List Loc) (ls : Array Slot), xBq_Search_markLeading_14 Q14 u y3 → xB_Search_markLeading_14 K14 u y3 = P → wd D vwCl (xC a k3) A s.heap u H locs → lv_has ls 4 [(0, .ref (a 5)), (1, .ref (a 1)), (3, .int y3)] → W p l e rm_xSearch_markLeading s m av below meth c H locs 0 0 (QV below D vwCl (xC a k3) A av s P) (F0 m 14 ls []) := by
  obtain ⟨hx, hb, hr, hml, hown, hts, hK, hN, hlocks, hA⟩ := id F
  have hown : s.vm.findClass RX4 = some m.cls := hown
  have htG : ∀ w ∈ tbG, w.before av s = true := fun w h => hts w (List.mem_cons_of_mem _ h)
  have f_22 := htG _ tb_143
  have f_19 := htG _ tb_142
  intro u y3 H locs ls hq hP hw hl
  refine lv_iload_n hx hb dX4_markLeading_14 rfl (lv_at hl 2 rfl) ?_
  refine lv_if_lt (tgt := 51) hx hb dX4_markLeading_15 (by decide) (fun c4 => ?_) (fun c4 => ?_)
  · have hP := (if_pos c4).symm.trans hP
    exact ret_v hx hb hr hlocks hw dX4_markLeading_51 hP
  · have hP := (if_neg c4).symm.trans hP
    have hq := hq c4
    refine lv_aload_n hx hb dX4_markLeading_18 rfl (lv_at hl 0 rfl) ?_
    refine lv_aload_n hx hb dX4_markLeading_19 rfl (lv_at hl 1 rfl) ?_
    refine lv_aload_n hx hb dX4_markLeading_20 rfl (lv_at hl 0 rfl) ?_
    refine va_get (D := D) (ci := 4) (v := .ref (a 26)) (C := RX4) (T := TX4) (N := 6) hx hb htG in_4 hown hK hw.1 5 (xo_5 a k3 u) rfl 3 (by decide) f_22 (fun _ h9 => h9) rfl dX4_markLeading_21 ?_
    refine lv_iload_n hx hb dX4_markLeading_24 rfl (lv_at hl 2 rfl) ?_
    obtain ⟨h5, hq⟩ := hq
    refine y_iald (t0 := 0) hx hb hK hw 13 (xo_26 a k3 u) rfl h5 dX4_markLeading_25 ?_
    obtain ⟨h6, hq⟩ := hq
    let r7 : Int32 := xp_Search_firstLeading u (s4_ra u 13 y3)
    refine call_vir (rest := []) ⟨hx, hb, hml, hown, htG⟩ nestW_ok hK hN hA (xc_Search_firstLeading l D a k3 u (s4_ra u 13 y3) h6) (cwV 2 htG (tb_V tb_391 tb_393 tb_6 tb_25 tb_394) rfl rfl rfl (by decide +kernel) ⟨Nat.le_of_ble_eq_true rfl, Nat.le_of_ble_eq_true rfl⟩) (ci := 4) rfl (xo_5 a k3 u) rfl hw rfl hl.1 rfl (Nat.le_of_ble_eq_true rfl) dX4_markLeading_26 ⟨Nat.zero_le _, Nat.zero_le _⟩ (fun H locs (hw : wd D vwCl (xC a k3) A s.heap u H locs) => ?_)
    refine lv_iconst (v := -1) hx hb dX4_markLeading_29 (by decide) ?_
    refine lv_icmp_eq (tgt := 45) hx hb dX4_markLeading_30 (by decide) (fun c8 => ?_) (fun c8 => ?_)
    · have hP := (if_pos c8).symm.trans hP
      have hq := hq.1 c8
      let v9 : Int32 := (y3 + (-1 : Int32))
      refine lv_iinc (v := v9) (lv' := [(3, .int v9), (0, .ref (a 5)), (1, .ref (a 1))]) hx hb dX4_markLeading_45 hl (k := 2) rfl rfl (by decide) rfl (fun ls hl => ?_)
      refine lv_goto (tgt := 14) hx hb dX4_markLeading_48 (by decide) ?_
      exact hK14 u (v9) H locs ls hq hP hw (lv_sub hl [1, 2, 0] rfl)
    · have hP := (if_neg c8).symm.trans hP
      have hq := hq.2 c8
      refine lv_aload_n hx hb dX4_markLeading_33 rfl (lv_at hl 0 rfl) ?_
      refine va_get (D := D) (ci := 4) (v := .ref (a 25)) (C := RX4) (T := TX4) (N := 6) hx hb htG in_4 hown hK hw.1 5 (xo_5 a k3 u) rfl 2 (by decide) f_19 (fun _ h9 => h9) rfl dX4_markLeading_34 ?_
      refine lv_aload_n hx hb dX4_markLeading_37 rfl (lv_at hl 0 rfl) ?_
      refine va_get (D := D) (ci := 4) (v := .ref (a 26)) (C := RX4) (T := TX4) (N := 6) hx hb htG in_4 hown hK hw.1 5 (xo_5 a k3 u) rfl 3 (by decide) f_22 (fun _ h9 => h9) rfl dX4_markLeading_38 ?_
      refine lv_iload_n hx hb dX4_markLeading_41 rfl (lv_at hl 2 rfl) ?_
      obtain ⟨h10, hq⟩ := hq
      refine y_iald (t0 := 0) hx hb hK hw 13 (xo_26 a k3 u) rfl h10 dX4_markLeading_42 ?_
      refine lv_iconst (v := 1) hx hb dX4_markLeading_43 (by decide) ?_
      obtain ⟨h11, hq⟩ := hq
      let u12 : S4 := s4_wz u 12 (s4_ra u 13 y3) (1 : Int32)
      refine y_zast (t0 := 2) hx hb hK hw 12 (xo_25 a k3 u) (xq_25 a k3 u) rfl h11 dX4_markLeading_44 (fun H locs (hw : wd D vwCl (xC a k3) A s.heap u12 H locs) => ?_)
      let v13 : Int32 := (y3 + (-1 : Int32))
      refine lv_iinc (v := v13) (lv' := [(3, .int v13), (0, .ref (a 5)), (1, .ref (a 1))]) hx hb dX4_markLeading_45 hl (k := 2) rfl rfl (by decide) rfl (fun ls hl => ?_)
      refine lv_goto (tgt := 14) hx hb dX4_markLeading_48 (by decide) ?_
      exact hK14 u12 (v13) H locs ls hq hP hw (lv_sub hl [1, 2, 0] rfl)
set_option maxHeartbeats 4000000 in
set_option maxRecDepth 100000 in
theorem xw_Search_markLeading_14 (l : Launch) (D : va_G) (a : Nat → Nat) (k3 : K3) {p : Program} {e : Env} {s : State} {m : MethodId} {below : List Frame} {meth : Method} {c : Code} {A : Nat → Prop} (av : Array Value) (F : Fx p s m meth c av cX4_markLeading 4 none yX4_markLeading.cls (kX4_markLeading :: tbG) D vwCl (ty3 k3) nestW A) (P : S4) : ∀ (n : Nat), ∀ (u : S4) (y3 : Int32) (H : Heap) (locs : List Loc) (ls : Array Slot), xLq_Search_markLeading_14 n u y3 → xL_Search_markLeading_14 n u y3 = P → wd D vwCl (xC a k3) A s.heap u H locs → lv_has ls 4 [(0, .ref (a 5)), (1, .ref (a 1)), (3, .int y3)] → W p l e rm_xSearch_markLeading s m av below meth c H locs 0 0 (QV below D vwCl (xC a k3) A av s P) (F0 m 14 ls []) := by
  intro n
  induction n with
  | zero => intro u y3 H locs ls hq hP hw hl; exact hq.elim
  | succ n ih => intro u y3 H locs ls hq hP hw hl; exact xs_Search_markLeading_14 l D a k3 av F P (xL_Search_markLeading_14 n) (xLq_Search_markLeading_14 n) ih u y3 H locs ls hq hP hw hl
def xp_Search_markLeading (u : S4) (x2 : Int32) : S4 :=
  let u2 : S4 := s4_wz u 12 x2 (1 : Int32)
  let v3 : Int32 := ((s4_i u2 2) - (1 : Int32))
  xL_Search_markLeading_14 64 u2 v3
def xq_Search_markLeading (u : S4) (x2 : Int32) : Prop :=
  vp_in x2 24 ∧
  let u2 : S4 := s4_wz u 12 x2 (1 : Int32)
  let v3 : Int32 := ((s4_i u2 2) - (1 : Int32))
  xLq_Search_markLeading_14 64 u2 v3
set_option maxHeartbeats 4000000 in
set_option maxRecDepth 100000 in
theorem xc_Search_markLeading (l : Launch) (D : va_G) (a : Nat → Nat) (k3 : K3) (u : S4) (x2 : Int32) (hq : xq_Search_markLeading u x2) : MV l D vwCl (ty3 k3) nestW (xC a k3) yX4_markLeading (kX4_markLeading :: tbG) rm_xSearch_markLeading [.ref (a 5), .ref (a 1), .int x2] u (xp_Search_markLeading u x2) := by
  refine mkV (cc := cX4_markLeading) (maxL := 4) (ret := none) (by decide) rfl (Nat.le_of_ble_eq_true rfl) ?_
  intro p e s m below meth c A ls F hw hl
  generalize hav : ([.ref (a 5), .ref (a 1), .int x2] : List Value).toArray = av at F ⊢
  have hl : lv_has ls 4 [(0, .ref (a 5)), (1, .ref (a 1)), (2, .int x2)] := hl
  obtain ⟨hx, hb, hr, hml, hown, hts, hK, hN, hlocks, hA⟩ := id F
  have hown : s.vm.findClass RX4 = some m.cls := hown
  have htG : ∀ w ∈ tbG, w.before av s = true := fun w h => hts w (List.mem_cons_of_mem _ h)
  have f_19 := htG _ tb_142
  have f_28 := htG _ tb_145
  have hgo : ∀ P, xp_Search_markLeading u x2 = P → ∀ (H : Heap) (locs : List Loc), wd D vwCl (xC a k3) A s.heap u H locs → W p l e rm_xSearch_markLeading s m av below meth c H locs 0 0 (QV below D vwCl (xC a k3) A av s P) (F0 m 0 ls []) := by
    intro P hP H locs hw
    refine lv_aload_n hx hb dX4_markLeading_0 rfl (lv_at hl 0 rfl) ?_
    refine va_get (D := D) (ci := 4) (v := .ref (a 25)) (C := RX4) (T := TX4) (N := 6) hx hb htG in_4 hown hK hw.1 5 (xo_5 a k3 u) rfl 2 (by decide) f_19 (fun _ h9 => h9) rfl dX4_markLeading_1 ?_
    refine lv_iload_n hx hb dX4_markLeading_4 rfl (lv_at hl 2 rfl) ?_
    refine lv_iconst (v := 1) hx hb dX4_markLeading_5 (by decide) ?_
    obtain ⟨h1, hq⟩ := hq
    let u2 : S4 := s4_wz u 12 x2 (1 : Int32)
    refine y_zast (t0 := 2) hx hb hK hw 12 (xo_25 a k3 u) (xq_25 a k3 u) rfl h1 dX4_markLeading_6 (fun H locs (hw : wd D vwCl (xC a k3) A s.heap u2 H locs) => ?_)
    refine lv_aload_n hx hb dX4_markLeading_7 rfl (lv_at hl 0 rfl) ?_
    refine va_get (D := D) (ci := 4) (v := .int (s4_i u2 2)) (C := RX4) (T := TX4) (N := 6) hx hb htG in_4 hown hK hw.1 5 (xo_5 a k3 u2) rfl 5 (by decide) f_28 (fun _ h9 => h9) rfl dX4_markLeading_8 ?_
    refine lv_iconst (v := 1) hx hb dX4_markLeading_11 (by decide) ?_
    refine lv_isub hx hb dX4_markLeading_12 ?_
    let v3 : Int32 := ((s4_i u2 2) - (1 : Int32))
    refine lv_istore_n (lv' := [(3, .int v3), (0, .ref (a 5)), (1, .ref (a 1)), (2, .int x2)]) hx hb dX4_markLeading_13 rfl hl (by decide) rfl (fun ls hl => ?_)
    exact xw_Search_markLeading_14 l D a k3 av F P 64 u2 v3 H locs ls hq hP hw (lv_sub hl [1, 2, 0] rfl)
  exact hgo _ rfl s.heap [] hw
theorem dX0_append_0 : decode cX0_append 0 = .ok (.aload_n 0, 1) := by decide +kernel
theorem dX0_append_1 : decode cX0_append 1 = .ok (.getfield 18, 3) := by decide +kernel
theorem dX0_append_4 : decode cX0_append 4 = .ok (.bipush 24, 2) := by decide +kernel
theorem dX0_append_6 : decode cX0_append 6 = .ok (.if_icmp .lt 4, 3) := by decide +kernel
theorem dX0_append_9 : decode cX0_append 9 = .ok (.return_, 1) := by decide +kernel
theorem dX0_append_10 : decode cX0_append 10 = .ok (.aload_n 0, 1) := by decide +kernel
theorem dX0_append_11 : decode cX0_append 11 = .ok (.getfield 9, 3) := by decide +kernel
theorem dX0_append_14 : decode cX0_append 14 = .ok (.aload_n 0, 1) := by decide +kernel
theorem dX0_append_15 : decode cX0_append 15 = .ok (.getfield 18, 3) := by decide +kernel
theorem dX0_append_18 : decode cX0_append 18 = .ok (.iload_n 1, 1) := by decide +kernel
theorem dX0_append_19 : decode cX0_append 19 = .ok (.iastore, 1) := by decide +kernel
theorem dX0_append_20 : decode cX0_append 20 = .ok (.aload_n 0, 1) := by decide +kernel
theorem dX0_append_21 : decode cX0_append 21 = .ok (.getfield 15, 3) := by decide +kernel
theorem dX0_append_24 : decode cX0_append 24 = .ok (.aload_n 0, 1) := by decide +kernel
theorem dX0_append_25 : decode cX0_append 25 = .ok (.getfield 18, 3) := by decide +kernel
theorem dX0_append_28 : decode cX0_append 28 = .ok (.iload_n 2, 1) := by decide +kernel
theorem dX0_append_29 : decode cX0_append 29 = .ok (.iastore, 1) := by decide +kernel
theorem dX0_append_30 : decode cX0_append 30 = .ok (.aload_n 0, 1) := by decide +kernel
theorem dX0_append_31 : decode cX0_append 31 = .ok (.dup, 1) := by decide +kernel
theorem dX0_append_32 : decode cX0_append 32 = .ok (.getfield 18, 3) := by decide +kernel
theorem dX0_append_35 : decode cX0_append 35 = .ok (.iconst 1, 1) := by decide +kernel
theorem dX0_append_36 : decode cX0_append 36 = .ok (.iadd, 1) := by decide +kernel
theorem dX0_append_37 : decode cX0_append 37 = .ok (.putfield 18, 3) := by decide +kernel
theorem dX0_append_40 : decode cX0_append 40 = .ok (.return_, 1) := by decide +kernel
abbrev rm_xHeldWay_append : Room := { frames := 0, cells := 0, slots := 0, locals := 0 }
def xp_HeldWay_append (u : S4) (x1 : Int32) (x2 : Int32) : S4 :=
  if (s4_i u 3) < (24 : Int32) then
    let u3 : S4 := s4_wa u 15 (s4_i u 3) x1
    let u5 : S4 := s4_wa u3 16 (s4_i u3 3) x2
    let v6 : Int32 := ((s4_i u5 3) + (1 : Int32))
    let u7 : S4 := s4_si u5 3 v6
    u7
  else
    u
def xq_HeldWay_append (u : S4) (x1 : Int32) (x2 : Int32) : Prop :=
  ((s4_i u 3) < (24 : Int32) →
    vp_in (s4_i u 3) 24 ∧
    let u3 : S4 := s4_wa u 15 (s4_i u 3) x1
    vp_in (s4_i u3 3) 24)
set_option maxHeartbeats 4000000 in
set_option maxRecDepth 100000 in
theorem xc_HeldWay_append (l : Launch) (D : va_G) (a : Nat → Nat) (k3 : K3) (u : S4) (x1 : Int32) (x2 : Int32) (hq : xq_HeldWay_append u x1 x2) : MV l D vwCl (ty3 k3) nestW (xC a k3) yX0_append (kX0_append :: tbG) rm_xHeldWay_append [.ref (a 6), .int x1, .int x2] u (xp_HeldWay_append u x1 x2) := by
  refine mkV (cc := cX0_append) (maxL := 3) (ret := none) (by decide) rfl (Nat.le_of_ble_eq_true rfl) ?_
  intro p e s m below meth c A ls F hw hl
  generalize hav : ([.ref (a 6), .int x1, .int x2] : List Value).toArray = av at F ⊢
  have hl : lv_has ls 3 [(0, .ref (a 6)), (1, .int x1), (2, .int x2)] := hl
  obtain ⟨hx, hb, hr, hml, hown, hts, hK, hN, hlocks, hA⟩ := id F
  have hown : s.vm.findClass RX0 = some m.cls := hown
  have htG : ∀ w ∈ tbG, w.before av s = true := fun w h => hts w (List.mem_cons_of_mem _ h)
  have f_18 := htG _ tb_167
  have f_9 := htG _ tb_165
  have f_15 := htG _ tb_166
  have hgo : ∀ P, xp_HeldWay_append u x1 x2 = P → ∀ (H : Heap) (locs : List Loc), wd D vwCl (xC a k3) A s.heap u H locs → W p l e rm_xHeldWay_append s m av below meth c H locs 0 0 (QV below D vwCl (xC a k3) A av s P) (F0 m 0 ls []) := by
    intro P hP H locs hw
    refine lv_aload_n hx hb dX0_append_0 rfl (lv_at hl 0 rfl) ?_
    refine va_get (D := D) (ci := 0) (v := .int (s4_i u 3)) (C := RX0) (T := TX0) (N := 3) hx hb htG in_0 hown hK hw.1 6 (xo_6 a k3 u) rfl 2 (by decide) f_18 (fun _ h9 => h9) rfl dX0_append_1 ?_
    refine lv_bipush (v := 24) hx hb dX0_append_4 (by decide) ?_
    refine lv_icmp_lt (tgt := 10) hx hb dX0_append_6 (by decide) (fun c1 => ?_) (fun c1 => ?_)
    · have hP := (if_pos c1).symm.trans hP
      have hq := hq c1
      refine lv_aload_n hx hb dX0_append_10 rfl (lv_at hl 0 rfl) ?_
      refine va_get (D := D) (ci := 0) (v := .ref (a 28)) (C := RX0) (T := TX0) (N := 3) hx hb htG in_0 hown hK hw.1 6 (xo_6 a k3 u) rfl 0 (by decide) f_9 (fun _ h9 => h9) rfl dX0_append_11 ?_
      refine lv_aload_n hx hb dX0_append_14 rfl (lv_at hl 0 rfl) ?_
      refine va_get (D := D) (ci := 0) (v := .int (s4_i u 3)) (C := RX0) (T := TX0) (N := 3) hx hb htG in_0 hown hK hw.1 6 (xo_6 a k3 u) rfl 2 (by decide) f_18 (fun _ h9 => h9) rfl dX0_append_15 ?_
      refine lv_iload_n hx hb dX0_append_18 rfl (lv_at hl 1 rfl) ?_
      obtain ⟨h2, hq⟩ := hq
      let u3 : S4 := s4_wa u 15 (s4_i u 3) x1
      refine y_iast (t0 := 0) hx hb hK hw 15 (xo_28 a k3 u) (xq_28 a k3 u) rfl h2 dX0_append_19 (fun H locs (hw : wd D vwCl (xC a k3) A s.heap u3 H locs) => ?_)
      refine lv_aload_n hx hb dX0_append_20 rfl (lv_at hl 0 rfl) ?_
      refine va_get (D := D) (ci := 0) (v := .ref (a 29)) (C := RX0) (T := TX0) (N := 3) hx hb htG in_0 hown hK hw.1 6 (xo_6 a k3 u3) rfl 1 (by decide) f_15 (fun _ h9 => h9) rfl dX0_append_21 ?_
      refine lv_aload_n hx hb dX0_append_24 rfl (lv_at hl 0 rfl) ?_
      refine va_get (D := D) (ci := 0) (v := .int (s4_i u3 3)) (C := RX0) (T := TX0) (N := 3) hx hb htG in_0 hown hK hw.1 6 (xo_6 a k3 u3) rfl 2 (by decide) f_18 (fun _ h9 => h9) rfl dX0_append_25 ?_
      refine lv_iload_n hx hb dX0_append_28 rfl (lv_at hl 2 rfl) ?_
      have h4 := hq
      let u5 : S4 := s4_wa u3 16 (s4_i u3 3) x2
      refine y_iast (t0 := 0) hx hb hK hw 16 (xo_29 a k3 u3) (xq_29 a k3 u3) rfl h4 dX0_append_29 (fun H locs (hw : wd D vwCl (xC a k3) A s.heap u5 H locs) => ?_)
      refine lv_aload_n hx hb dX0_append_30 rfl (lv_at hl 0 rfl) ?_
      refine lv_dup hx hb dX0_append_31 rfl ?_
      refine va_get (D := D) (ci := 0) (v := .int (s4_i u5 3)) (C := RX0) (T := TX0) (N := 3) hx hb htG in_0 hown hK hw.1 6 (xo_6 a k3 u5) rfl 2 (by decide) f_18 (fun _ h9 => h9) rfl dX0_append_32 ?_
      refine lv_iconst (v := 1) hx hb dX0_append_35 (by decide) ?_
      refine lv_iadd hx hb dX0_append_36 ?_
      let v6 : Int32 := ((s4_i u5 3) + (1 : Int32))
      let u7 : S4 := s4_si u5 3 v6
      refine y_puti hx hb htG in_0 tyX0 tyX0_ok nX0 hown hK hw 3 (xo_6 a k3 u5) rfl 2 (by decide) f_18 (fun _ h9 => h9) rfl (by decide +kernel) (Nat.le_of_ble_eq_true rfl) (xt_i3 a k3 u5 v6) dX0_append_37 (fun H locs (hw : wd D vwCl (xC a k3) A s.heap u7 H locs) => ?_)
      exact ret_v hx hb hr hlocks hw dX0_append_40 hP
    · have hP := (if_neg c1).symm.trans hP
      exact ret_v hx hb hr hlocks hw dX0_append_9 hP
  exact hgo _ rfl s.heap [] hw
theorem dX4_trace_0 : decode cX4_trace 0 = .ok (.iload_n 2, 1) := by decide +kernel
theorem dX4_trace_1 : decode cX4_trace 1 = .ok (.istore 5, 2) := by decide +kernel
theorem dX4_trace_3 : decode cX4_trace 3 = .ok (.iconst 0, 1) := by decide +kernel
theorem dX4_trace_4 : decode cX4_trace 4 = .ok (.istore 6, 2) := by decide +kernel
theorem dX4_trace_6 : decode cX4_trace 6 = .ok (.iload 6, 2) := by decide +kernel
theorem dX4_trace_8 : decode cX4_trace 8 = .ok (.bipush 24, 2) := by decide +kernel
theorem dX4_trace_10 : decode cX4_trace 10 = .ok (.if_icmp .ge 62, 3) := by decide +kernel
theorem dX4_trace_13 : decode cX4_trace 13 = .ok (.iload 5, 2) := by decide +kernel
theorem dX4_trace_15 : decode cX4_trace 15 = .ok (.iload_n 3, 1) := by decide +kernel
theorem dX4_trace_16 : decode cX4_trace 16 = .ok (.if_icmp .eq 56, 3) := by decide +kernel
theorem dX4_trace_19 : decode cX4_trace 19 = .ok (.aload_n 0, 1) := by decide +kernel
theorem dX4_trace_20 : decode cX4_trace 20 = .ok (.aload_n 1, 1) := by decide +kernel
theorem dX4_trace_21 : decode cX4_trace 21 = .ok (.iload 5, 2) := by decide +kernel
theorem dX4_trace_23 : decode cX4_trace 23 = .ok (.invokevirtual 60, 3) := by decide +kernel
theorem dX4_trace_26 : decode cX4_trace 26 = .ok (.istore 7, 2) := by decide +kernel
theorem dX4_trace_28 : decode cX4_trace 28 = .ok (.iload 7, 2) := by decide +kernel
theorem dX4_trace_30 : decode cX4_trace 30 = .ok (.iconst (-1), 1) := by decide +kernel
theorem dX4_trace_31 : decode cX4_trace 31 = .ok (.if_icmp .ne 4, 3) := by decide +kernel
theorem dX4_trace_34 : decode cX4_trace 34 = .ok (.return_, 1) := by decide +kernel
theorem dX4_trace_35 : decode cX4_trace 35 = .ok (.aload 4, 2) := by decide +kernel
theorem dX4_trace_37 : decode cX4_trace 37 = .ok (.iload 7, 2) := by decide +kernel
theorem dX4_trace_39 : decode cX4_trace 39 = .ok (.aload_n 0, 1) := by decide +kernel
theorem dX4_trace_40 : decode cX4_trace 40 = .ok (.getfield 9, 3) := by decide +kernel
theorem dX4_trace_43 : decode cX4_trace 43 = .ok (.iload 7, 2) := by decide +kernel
theorem dX4_trace_45 : decode cX4_trace 45 = .ok (.iaload, 1) := by decide +kernel
theorem dX4_trace_46 : decode cX4_trace 46 = .ok (.aload_n 1, 1) := by decide +kernel
theorem dX4_trace_47 : decode cX4_trace 47 = .ok (.getfield 35, 3) := by decide +kernel
theorem dX4_trace_50 : decode cX4_trace 50 = .ok (.iload 7, 2) := by decide +kernel
theorem dX4_trace_52 : decode cX4_trace 52 = .ok (.invokestatic 64, 3) := by decide +kernel
theorem dX4_trace_55 : decode cX4_trace 55 = .ok (.invokevirtual 67, 3) := by decide +kernel
theorem dX4_trace_58 : decode cX4_trace 58 = .ok (.isub, 1) := by decide +kernel
theorem dX4_trace_59 : decode cX4_trace 59 = .ok (.invokevirtual 70, 3) := by decide +kernel
theorem dX4_trace_62 : decode cX4_trace 62 = .ok (.iload 7, 2) := by decide +kernel
theorem dX4_trace_64 : decode cX4_trace 64 = .ok (.istore 5, 2) := by decide +kernel
theorem dX4_trace_66 : decode cX4_trace 66 = .ok (.iinc 6 1, 3) := by decide +kernel
theorem dX4_trace_69 : decode cX4_trace 69 = .ok (.goto (-63), 3) := by decide +kernel
theorem dX4_trace_72 : decode cX4_trace 72 = .ok (.return_, 1) := by decide +kernel
abbrev rm_xSearch_trace : Room := { frames := 5, cells := 0, slots := 0, locals := 118 }
def xB_Search_trace_6 (K6 : S4 → Int32 → Int32 → Int32 → S4) (u : S4) (y3 : Int32) (y5 : Int32) (y6 : Int32) : S4 :=
  if (24 : Int32) ≤ y6 then
    u
  else
    if y5 = y3 then
      u
    else
      let r4 : Int32 := xp_Search_firstLeading u y5
      if r4 = (-1 : Int32) then
        u
      else
        let r7 : Int32 := xp_O_streetOf u r4
        let r9 : Int32 := xp_Streets_secondsOf u r7
        let u11 : S4 := xp_HeldWay_append u r4 ((s4_ra u 10 r4) - r9)
        let v12 : Int32 := (y6 + (1 : Int32))
        K6 u11 y3 r4 v12
def xL_Search_trace_6 : Nat → S4 → Int32 → Int32 → Int32 → S4
  | 0 => fun u _ _ _ => u
  | n + 1 => xB_Search_trace_6 (xL_Search_trace_6 n)
def xBq_Search_trace_6 (Q6 : S4 → Int32 → Int32 → Int32 → Prop) (u : S4) (y3 : Int32) (y5 : Int32) (y6 : Int32) : Prop :=
  (¬ (24 : Int32) ≤ y6 →
    (¬ y5 = y3 →
      xq_Search_firstLeading u y5 ∧
      let r4 : Int32 := xp_Search_firstLeading u y5
      (¬ r4 = (-1 : Int32) →
        vp_in r4 24 ∧
        let r7 : Int32 := xp_O_streetOf u r4
        xq_Streets_secondsOf u r7 ∧
        let r9 : Int32 := xp_Streets_secondsOf u r7
        xq_HeldWay_append u r4 ((s4_ra u 10 r4) - r9) ∧
        let u11 : S4 := xp_HeldWay_append u r4 ((s4_ra u 10 r4) - r9)
        let v12 : Int32 := (y6 + (1 : Int32))
        Q6 u11 y3 r4 v12)))
def xLq_Search_trace_6 : Nat → S4 → Int32 → Int32 → Int32 → Prop
  | 0 => fun _ _ _ _ => False
  | n + 1 => xBq_Search_trace_6 (xLq_Search_trace_6 n)
set_option maxHeartbeats 4000000 in
set_option maxRecDepth 100000 in
theorem xs_Search_trace_6 (l : Launch) (D : va_G) (a : Nat → Nat) (k3 : K3) {p : Program} {e : Env} {s : State} {m : MethodId} {below : List Frame} {meth : Method} {c : Code} {A : Nat → Prop} (av : Array Value) (F : Fx p s m meth c av cX4_trace 8 none yX4_trace.cls (kX4_trace :: tbG) D vwCl (ty3 k3) nestW A) (P : S4) (K6 : S4 → Int32 → Int32 → Int32 → S4) (Q6 : S4 → Int32 → Int32 → Int32 → Prop) (hK6 : ∀ (u : S4) (y3 : Int32) (y5 : Int32) (y6 : Int32) (H : Heap) (locs : List Loc) (ls : Array Slot), Q6 u y3 y5 y6 → K6 u y3 y5 y6 = P → wd D vwCl (xC a k3) A s.heap u H locs → lv_has ls 8 [(0, .ref (a 5)), (1, .ref (a 1)), (3, .int y3), (4, .ref (a 6)), (5, .int y5), (6, .int y6)] → W p l e rm_xSearch_trace s m av below meth c H locs 0 0 (QV below D vwCl (xC a k3) A av s P) (F0 m 6 ls [])) : ∀ (u : S4) (y3 : Int32) (y5 : Int32) (y6 : Int32) (H : Heap) (locs : List Loc) (ls : Array Slot), xBq_Search_trace_6 Q6 u y3 y5 y6 → xB_Search_trace_6 K6 u y3 y5 y6 = P → wd D vwCl (xC a k3) A s.heap u H locs → lv_has ls 8 [(0, .ref (a 5)), (1, .ref (a 1)), (3, .int y3), (4, .ref (a 6)), (5, .int y5), (6, .int y6)] → W p l e rm_xSearch_trace s m av below meth c H locs 0 0 (QV below D vwCl (xC a k3) A av s P) (F0 m 6 ls []) := by
  obtain ⟨hx, hb, hr, hml, hown, hts, hK, hN, hlocks, hA⟩ := id F
  have hown : s.vm.findClass RX4 = some m.cls := hown
  have htG : ∀ w ∈ tbG, w.before av s = true := fun w h => hts w (List.mem_cons_of_mem _ h)
  have f_9 := htG _ tb_140
  have f_35 := va_Nw.use (A := av) rfl (hN _ nw_5)
  intro u y3 y5 y6 H locs ls hq hP hw hl
  refine lv_iload hx hb dX4_trace_6 (lv_at hl 5 rfl) ?_
  refine lv_bipush (v := 24) hx hb dX4_trace_8 (by decide) ?_
  refine lv_icmp_ge (tgt := 72) hx hb dX4_trace_10 (by decide) (fun c1 => ?_) (fun c1 => ?_)
  · have hP := (if_pos c1).symm.trans hP
    exact ret_v hx hb hr hlocks hw dX4_trace_72 hP
  · have hP := (if_neg c1).symm.trans hP
    have hq := hq c1
    refine lv_iload hx hb dX4_trace_13 (lv_at hl 4 rfl) ?_
    refine lv_iload_n hx hb dX4_trace_15 rfl (lv_at hl 2 rfl) ?_
    refine lv_icmp_eq (tgt := 72) hx hb dX4_trace_16 (by decide) (fun c2 => ?_) (fun c2 => ?_)
    · have hP := (if_pos c2).symm.trans hP
      exact ret_v hx hb hr hlocks hw dX4_trace_72 hP
    · have hP := (if_neg c2).symm.trans hP
      have hq := hq c2
      refine lv_aload_n hx hb dX4_trace_19 rfl (lv_at hl 0 rfl) ?_
      refine lv_aload_n hx hb dX4_trace_20 rfl (lv_at hl 1 rfl) ?_
      refine lv_iload hx hb dX4_trace_21 (lv_at hl 4 rfl) ?_
      obtain ⟨h3, hq⟩ := hq
      let r4 : Int32 := xp_Search_firstLeading u y5
      refine call_vir (rest := []) ⟨hx, hb, hml, hown, htG⟩ nestW_ok hK hN hA (xc_Search_firstLeading l D a k3 u y5 h3) (cwV 2 htG (tb_V tb_391 tb_393 tb_6 tb_25 tb_394) rfl rfl rfl (by decide +kernel) ⟨Nat.le_of_ble_eq_true rfl, Nat.le_of_ble_eq_true rfl⟩) (ci := 4) rfl (xo_5 a k3 u) rfl hw rfl hl.1 rfl (Nat.le_of_ble_eq_true rfl) dX4_trace_23 ⟨Nat.zero_le _, Nat.zero_le _⟩ (fun H locs (hw : wd D vwCl (xC a k3) A s.heap u H locs) => ?_)
      refine lv_istore (lv' := [(7, .int r4), (0, .ref (a 5)), (1, .ref (a 1)), (3, .int y3), (4, .ref (a 6)), (5, .int y5), (6, .int y6)]) hx hb dX4_trace_26 hl (by decide) rfl (fun ls hl => ?_)
      refine lv_iload hx hb dX4_trace_28 (lv_at hl 0 rfl) ?_
      refine lv_iconst (v := -1) hx hb dX4_trace_30 (by decide) ?_
      refine lv_icmp_ne (tgt := 35) hx hb dX4_trace_31 (by decide) (fun c5 => ?_) (fun c5 => ?_)
      · have hP := (if_neg c5).symm.trans hP
        have hq := hq c5
        refine lv_aload hx hb dX4_trace_35 (lv_at hl 4 rfl) ?_
        refine lv_iload hx hb dX4_trace_37 (lv_at hl 0 rfl) ?_
        refine lv_aload_n hx hb dX4_trace_39 rfl (lv_at hl 1 rfl) ?_
        refine va_get (D := D) (ci := 4) (v := .ref (a 23)) (C := RX4) (T := TX4) (N := 6) hx hb htG in_4 hown hK hw.1 5 (xo_5 a k3 u) rfl 0 (by decide) f_9 (fun _ h9 => h9) rfl dX4_trace_40 ?_
        refine lv_iload hx hb dX4_trace_43 (lv_at hl 0 rfl) ?_
        obtain ⟨h6, hq⟩ := hq
        refine y_iald (t0 := 0) hx hb hK hw 10 (xo_23 a k3 u) rfl h6 dX4_trace_45 ?_
        refine lv_aload_n hx hb dX4_trace_46 rfl (lv_at hl 2 rfl) ?_
        refine va_getN (D := D) (ci := 2) (v := .ref (a 3)) (C := RX2) (T := TX2) (N := 5) hx hb htG in_2 hown hK hw.1 1 (xo_1 a k3 u) rfl 1 (by decide) f_35 (fun _ h9 => h9) rfl dX4_trace_47 ?_
        refine lv_iload hx hb dX4_trace_50 (lv_at hl 0 rfl) ?_
        let r7 : Int32 := xp_O_streetOf u r4
        refine call_nir (rest := [.ref (a 3), .int (s4_ra u 10 r4), .int r4, .ref (a 6)]) ⟨hx, hb, hml, hown, htG⟩ nestW_ok hK hN hA (xc_O_streetOf l D a k3 u r4) ⟨va_cnB (host := "StreetSides") 1 htG (tb_K tb_337) rfl rfl rfl (hN _ nw_14) (htG _ tb_20) (by decide +kernel) ⟨Nat.le_of_ble_eq_true rfl, Nat.le_of_ble_eq_true rfl⟩, htG _ tb_336, trivial⟩ hw rfl hl.1 rfl (Nat.le_of_ble_eq_true rfl) dX4_trace_52 ⟨Nat.zero_le _, Nat.zero_le _⟩ (fun H locs (hw : wd D vwCl (xC a k3) A s.heap u H locs) => ?_)
        obtain ⟨h8, hq⟩ := hq
        let r9 : Int32 := xp_Streets_secondsOf u r7
        refine call_vir (rest := [.int (s4_ra u 10 r4), .int r4, .ref (a 6)]) ⟨hx, hb, hml, hown, htG⟩ nestW_ok hK hN hA (xc_Streets_secondsOf l D a k3 u r7 h8) (cwV 1 htG (tb_V tb_400 tb_380 tb_381 tb_23 tb_382) rfl rfl rfl (by decide +kernel) ⟨Nat.le_of_ble_eq_true rfl, Nat.le_of_ble_eq_true rfl⟩) (ci := 5) rfl (xo_3 a k3 u) rfl hw rfl hl.1 rfl (Nat.le_of_ble_eq_true rfl) dX4_trace_55 ⟨Nat.zero_le _, Nat.zero_le _⟩ (fun H locs (hw : wd D vwCl (xC a k3) A s.heap u H locs) => ?_)
        refine lv_isub hx hb dX4_trace_58 ?_
        obtain ⟨h10, hq⟩ := hq
        let u11 : S4 := xp_HeldWay_append u r4 ((s4_ra u 10 r4) - r9)
        refine call_vv (rest := []) ⟨hx, hb, hml, hown, htG⟩ nestW_ok hK hN hA (xc_HeldWay_append l D a k3 u r4 ((s4_ra u 10 r4) - r9) h10) (cwV 2 htG (tb_V tb_401 tb_402 tb_403 tb_26 tb_404) rfl rfl rfl (by decide +kernel) ⟨Nat.le_of_ble_eq_true rfl, Nat.le_of_ble_eq_true rfl⟩) (ci := 0) rfl (xo_6 a k3 u) rfl hw rfl hl.1 rfl (Nat.le_of_ble_eq_true rfl) dX4_trace_59 ⟨Nat.zero_le _, Nat.zero_le _⟩ (fun H locs (hw : wd D vwCl (xC a k3) A s.heap u11 H locs) => ?_)
        refine lv_iload hx hb dX4_trace_62 (lv_at hl 0 rfl) ?_
        refine lv_istore (lv' := [(5, .int r4), (7, .int r4), (0, .ref (a 5)), (1, .ref (a 1)), (3, .int y3), (4, .ref (a 6)), (6, .int y6)]) hx hb dX4_trace_64 hl (by decide) rfl (fun ls hl => ?_)
        let v12 : Int32 := (y6 + (1 : Int32))
        refine lv_iinc (v := v12) (lv' := [(6, .int v12), (5, .int r4), (7, .int r4), (0, .ref (a 5)), (1, .ref (a 1)), (3, .int y3), (4, .ref (a 6))]) hx hb dX4_trace_66 hl (k := 6) rfl rfl (by decide) rfl (fun ls hl => ?_)
        refine lv_goto (tgt := 6) hx hb dX4_trace_69 (by decide) ?_
        exact hK6 u11 (y3) (r4) (v12) H locs ls hq hP hw (lv_sub hl [3, 4, 5, 6, 1, 0] rfl)
      · have hP := (if_pos c5).symm.trans hP
        exact ret_v hx hb hr hlocks hw dX4_trace_34 hP
set_option maxHeartbeats 4000000 in
set_option maxRecDepth 100000 in
theorem xw_Search_trace_6 (l : Launch) (D : va_G) (a : Nat → Nat) (k3 : K3) {p : Program} {e : Env} {s : State} {m : MethodId} {below : List Frame} {meth : Method} {c : Code} {A : Nat → Prop} (av : Array Value) (F : Fx p s m meth c av cX4_trace 8 none yX4_trace.cls (kX4_trace :: tbG) D vwCl (ty3 k3) nestW A) (P : S4) : ∀ (n : Nat), ∀ (u : S4) (y3 : Int32) (y5 : Int32) (y6 : Int32) (H : Heap) (locs : List Loc) (ls : Array Slot), xLq_Search_trace_6 n u y3 y5 y6 → xL_Search_trace_6 n u y3 y5 y6 = P → wd D vwCl (xC a k3) A s.heap u H locs → lv_has ls 8 [(0, .ref (a 5)), (1, .ref (a 1)), (3, .int y3), (4, .ref (a 6)), (5, .int y5), (6, .int y6)] → W p l e rm_xSearch_trace s m av below meth c H locs 0 0 (QV below D vwCl (xC a k3) A av s P) (F0 m 6 ls []) := by
  intro n
  induction n with
  | zero => intro u y3 y5 y6 H locs ls hq hP hw hl; exact hq.elim
  | succ n ih => intro u y3 y5 y6 H locs ls hq hP hw hl; exact xs_Search_trace_6 l D a k3 av F P (xL_Search_trace_6 n) (xLq_Search_trace_6 n) ih u y3 y5 y6 H locs ls hq hP hw hl
def xp_Search_trace (u : S4) (x2 : Int32) (x3 : Int32) : S4 :=
  xL_Search_trace_6 64 u x3 x2 (0 : Int32)
def xq_Search_trace (u : S4) (x2 : Int32) (x3 : Int32) : Prop :=
  xLq_Search_trace_6 64 u x3 x2 (0 : Int32)
set_option maxHeartbeats 4000000 in
set_option maxRecDepth 100000 in
theorem xc_Search_trace (l : Launch) (D : va_G) (a : Nat → Nat) (k3 : K3) (u : S4) (x2 : Int32) (x3 : Int32) (hq : xq_Search_trace u x2 x3) : MV l D vwCl (ty3 k3) nestW (xC a k3) yX4_trace (kX4_trace :: tbG) rm_xSearch_trace [.ref (a 5), .ref (a 1), .int x2, .int x3, .ref (a 6)] u (xp_Search_trace u x2 x3) := by
  refine mkV (cc := cX4_trace) (maxL := 8) (ret := none) (by decide) rfl (Nat.le_of_ble_eq_true rfl) ?_
  intro p e s m below meth c A ls F hw hl
  generalize hav : ([.ref (a 5), .ref (a 1), .int x2, .int x3, .ref (a 6)] : List Value).toArray = av at F ⊢
  have hl : lv_has ls 8 [(0, .ref (a 5)), (1, .ref (a 1)), (2, .int x2), (3, .int x3), (4, .ref (a 6))] := hl
  obtain ⟨hx, hb, hr, hml, hown, hts, hK, hN, hlocks, hA⟩ := id F
  have hown : s.vm.findClass RX4 = some m.cls := hown
  have htG : ∀ w ∈ tbG, w.before av s = true := fun w h => hts w (List.mem_cons_of_mem _ h)
  have hgo : ∀ P, xp_Search_trace u x2 x3 = P → ∀ (H : Heap) (locs : List Loc), wd D vwCl (xC a k3) A s.heap u H locs → W p l e rm_xSearch_trace s m av below meth c H locs 0 0 (QV below D vwCl (xC a k3) A av s P) (F0 m 0 ls []) := by
    intro P hP H locs hw
    refine lv_iload_n hx hb dX4_trace_0 rfl (lv_at hl 2 rfl) ?_
    refine lv_istore (lv' := [(5, .int x2), (0, .ref (a 5)), (1, .ref (a 1)), (2, .int x2), (3, .int x3), (4, .ref (a 6))]) hx hb dX4_trace_1 hl (by decide) rfl (fun ls hl => ?_)
    refine lv_iconst (v := 0) hx hb dX4_trace_3 (by decide) ?_
    refine lv_istore (lv' := [(6, .int (0 : Int32)), (5, .int x2), (0, .ref (a 5)), (1, .ref (a 1)), (2, .int x2), (3, .int x3), (4, .ref (a 6))]) hx hb dX4_trace_4 hl (by decide) rfl (fun ls hl => ?_)
    exact xw_Search_trace_6 l D a k3 av F P 64 u x3 x2 (0 : Int32) H locs ls hq hP hw (lv_sub hl [2, 3, 5, 6, 1, 0] rfl)
  exact hgo _ rfl s.heap [] hw
theorem dX4_earliestAt_0 : decode cX4_earliestAt 0 = .ok (.aload_n 0, 1) := by decide +kernel
theorem dX4_earliestAt_1 : decode cX4_earliestAt 1 = .ok (.getfield 9, 3) := by decide +kernel
theorem dX4_earliestAt_4 : decode cX4_earliestAt 4 = .ok (.iload_n 1, 1) := by decide +kernel
theorem dX4_earliestAt_5 : decode cX4_earliestAt 5 = .ok (.iaload, 1) := by decide +kernel
theorem dX4_earliestAt_6 : decode cX4_earliestAt 6 = .ok (.ireturn, 1) := by decide +kernel
abbrev rm_xSearch_earliestAt : Room := { frames := 0, cells := 0, slots := 0, locals := 0 }
def xp_Search_earliestAt (u : S4) (x1 : Int32) : Int32 :=
  (s4_ra u 10 x1)
def xq_Search_earliestAt (u : S4) (x1 : Int32) : Prop :=
  vp_in x1 24
set_option maxHeartbeats 4000000 in
set_option maxRecDepth 100000 in
theorem xc_Search_earliestAt (l : Launch) (D : va_G) (a : Nat → Nat) (k3 : K3) (u : S4) (x1 : Int32) (hq : xq_Search_earliestAt u x1) : MI l D vwCl (ty3 k3) nestW (xC a k3) yX4_earliestAt (kX4_earliestAt :: tbG) rm_xSearch_earliestAt [.ref (a 5), .int x1] u (xp_Search_earliestAt u x1, u) := by
  refine mkI (cc := cX4_earliestAt) (maxL := 2) (ret := (some .int)) (by decide) rfl (Nat.le_of_ble_eq_true rfl) ?_
  intro p e s m below meth c A ls F hw hl
  generalize hav : ([.ref (a 5), .int x1] : List Value).toArray = av at F ⊢
  have hl : lv_has ls 2 [(0, .ref (a 5)), (1, .int x1)] := hl
  obtain ⟨hx, hb, hr, hml, hown, hts, hK, hN, hlocks, hA⟩ := id F
  have hown : s.vm.findClass RX4 = some m.cls := hown
  have htG : ∀ w ∈ tbG, w.before av s = true := fun w h => hts w (List.mem_cons_of_mem _ h)
  have f_9 := htG _ tb_140
  have hgo : ∀ P, xp_Search_earliestAt u x1 = P → ∀ (H : Heap) (locs : List Loc), wd D vwCl (xC a k3) A s.heap u H locs → W p l e rm_xSearch_earliestAt s m av below meth c H locs 0 0 (QI below D vwCl (xC a k3) A av s (P, u)) (F0 m 0 ls []) := by
    intro P hP H locs hw
    refine lv_aload_n hx hb dX4_earliestAt_0 rfl (lv_at hl 0 rfl) ?_
    refine va_get (D := D) (ci := 4) (v := .ref (a 23)) (C := RX4) (T := TX4) (N := 6) hx hb htG in_4 hown hK hw.1 5 (xo_5 a k3 u) rfl 0 (by decide) f_9 (fun _ h9 => h9) rfl dX4_earliestAt_1 ?_
    refine lv_iload_n hx hb dX4_earliestAt_4 rfl (lv_at hl 1 rfl) ?_
    have h1 := hq
    refine y_iald (t0 := 0) hx hb hK hw 10 (xo_23 a k3 u) rfl h1 dX4_earliestAt_5 ?_
    exact ret_i hx hb hr hlocks hw dX4_earliestAt_6 (congrArg (fun z => (z, u)) hP)
  exact hgo _ rfl s.heap [] hw
