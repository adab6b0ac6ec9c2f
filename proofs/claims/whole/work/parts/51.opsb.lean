theorem one_ne : ¬ (1 : Int32) = 0 := by decide
theorem op_deadEnd {u v : S4} (h : Rel u v) (x1 : Int32) (x2 : Int32) (hzx2 : x2 = 0 ∨ x2 = 1) : (xq_O_deadEnd u x1 x2) ∧ (mq_M_deadEnd v x1 x2) ∧ (xp_O_deadEnd u x1 x2).1 = (mp_M_deadEnd v x1 x2).1 ∧ Rel (xp_O_deadEnd u x1 x2).2 (mp_M_deadEnd v x1 x2).2 := by
  obtain ⟨n, k, d, w, ⟨n8, iu, iv, hxy, hr⟩, ⟨hz1, hz2⟩, hs, hh, hl, hc, ht, hd, hw⟩ := id h
  unfold xq_O_deadEnd mq_M_deadEnd xp_O_deadEnd mp_M_deadEnd
  simp only [nh_eq iu iv, xq_Nodes_setTurningPlace, xp_Nodes_setTurningPlace]
  rcases isNode_or iv (by omega) x1 with h0 | ⟨h1, j, hj, rfl⟩
  · simp [h0, h]
  · have h1' : ¬ mp_M_isNode v (nI j) = 0 := by rw [h1]; exact one_ne
    have hin : vp_in (nI j) 8 := vp_in_nI (by omega) (by decide)
    simp only [h1', if_false, not_false_eq_true, true_implies]
    refine ⟨hin, hin, trivial, n, k, d, w, ⟨n8, iu, iv, hxy, hr⟩, ⟨?_, fun q => ?_⟩, hs, hh, hl, hc, ht, hd, hw⟩
    · show upd (s4_a u 1) _ (vp_nar .boolean x2) = upd (s4_a v 2) _ (vp_nar .boolean x2)
      rw [hz1]
    · show upd (s4_a v 2) _ (vp_nar .boolean x2) q = 0 ∨ upd (s4_a v 2) _ (vp_nar .boolean x2) q = 1
      unfold upd
      by_cases hq : q = (nI j).toNatClampNeg
      · rw [if_pos hq]
        rcases hzx2 with rfl | rfl
        · exact Or.inl rfl
        · exact Or.inr rfl
      · rw [if_neg hq]; exact hz2 q
theorem i32_lt {x : Int32} {a : Int32} {b : Int} (hb : a.toInt = b) : x < a ↔ x.toInt < b := by rw [Int32.lt_iff_toInt_lt, hb]
theorem i32_le {x : Int32} {a : Int32} {b : Int} (hb : a.toInt = b) : x ≤ a ↔ x.toInt ≤ b := by rw [Int32.le_iff_toInt_le, hb]
theorem op_hours {u v : S4} (h : Rel u v) (x1 : Int32) (x2 : Int32) (x3 : Int32) : (xq_O_hours u x1 x2 x3) ∧ (mq_M_hours v x1 x2 x3) ∧ (xp_O_hours u x1 x2 x3).1 = (mp_M_hours v x1 x2 x3).1 ∧ Rel (xp_O_hours u x1 x2 x3).2 (mp_M_hours v x1 x2 x3).2 := by
  obtain ⟨n, k, d, w, hn, hz, ⟨k12, iu, iv, hs⟩, ⟨h6, h7, h0, hj⟩, hl, hc, ht, hd, hw⟩ := id h
  unfold xq_O_hours mq_M_hours xp_O_hours mp_M_hours
  simp only [sh_eq iu iv, xq_Streets_setHours, xp_Streets_setHours]
  rcases isStreet_or iv (by omega) x1 with g0 | ⟨g1, j, hjk, rfl⟩
  · simp [g0, h]
  · have g1' : ¬ mp_M_isStreet v (nI j) = 0 := by rw [g1]; exact one_ne
    have hin : vp_in (nI j) 12 := vp_in_nI (by omega) (by decide)
    by_cases c1 : x2 < 0
    · simp [g1', c1, h]
    · by_cases c2 : x3 < x2
      · simp [g1', c1, c2, h]
      · by_cases c3 : x3 < 86400
        · simp only [g1', c1, c2, c3, if_true, if_false, not_false_eq_true, true_implies]
          rw [Int32.lt_iff_toInt_lt] at c1 c2 c3
          have e0 : (0 : Int32).toInt = 0 := rfl
          have e8 : (86400 : Int32).toInt = 86400 := rfl
          obtain ⟨a, ha1, ha2, ha3⟩ := nI_of_r (x := x2) (m := 86399) (by omega) (by omega)
          obtain ⟨b, hb1, hb2, hb3⟩ := nI_of_r (x := x3) (m := 86399) (by omega) (by omega)
          refine ⟨⟨hin, hin⟩, ⟨hin, hin⟩, trivial, n, k, d, w, hn, hz, ⟨k12, iu, iv, hs⟩, ⟨?_, ?_, fun q hq => ?_, fun q hq => ?_⟩, hl, hc, ht, hd, hw⟩
          · show upd (s4_a u 6) _ x2 = upd (s4_a v 7) _ x2
            rw [h6]
          · show upd (s4_a u 7) _ x3 = upd (s4_a v 8) _ x3
            rw [h7]
          · show upd (s4_a v 7) (nI j).toNatClampNeg x2 q = 0
            unfold upd
            rw [nI_clamp (by omega), if_neg (by omega)]
            exact h0 q hq
          · show ∃ a b : Nat, a ≤ b ∧ b < 86400 ∧ upd (s4_a v 7) (nI j).toNatClampNeg x2 q = nI a ∧ upd (s4_a v 8) (nI j).toNatClampNeg x3 q = nI b
            unfold upd
            by_cases hqj : q = (nI j).toNatClampNeg
            · rw [if_pos hqj, if_pos hqj]
              exact ⟨a, b, by omega, by omega, ha2, hb2⟩
            · rw [if_neg hqj, if_neg hqj]
              exact hj q hq
        · simp [g1', c1, c2, c3, h]
theorem op_turn {u v : S4} (h : Rel u v) (x1 : Int32) (x2 : Int32) (x3 : Int32) (x4 : Int32) (hzx4 : x4 = 0 ∨ x4 = 1) : (xq_O_turn u x1 x2 x3 x4) ∧ (mq_M_turn v x1 x2 x3 x4) ∧ (xp_O_turn u x1 x2 x3 x4).1 = (mp_M_turn v x1 x2 x3 x4).1 ∧ Rel (xp_O_turn u x1 x2 x3 x4).2 (mp_M_turn v x1 x2 x3 x4).2 := by
  obtain ⟨n, k, d, w, hn, hz, ⟨k12, iu, iv, hs⟩, hh, hl, hc, ⟨t8, t9, tz, tr, td⟩, hd, hw⟩ := id h
  unfold xq_O_turn mq_M_turn xp_O_turn mp_M_turn
  simp only [sh_eq iu iv, xq_Turns_set, xp_Turns_set, xp_Turns_slotOf, isIn_iff]
  rcases isStreet_or iv (by omega) x1 with g0 | ⟨g1, j, hjk, rfl⟩
  · simp [g0, h]
  · have g1' : ¬ mp_M_isStreet v (nI j) = 0 := by rw [g1]; exact one_ne
    rcases isStreet_or iv (by omega) x2 with f0 | ⟨f1, i, hik, rfl⟩
    · simp [g1', f0, h]
    · have f1' : ¬ mp_M_isStreet v (nI i) = 0 := by rw [f1]; exact one_ne
      by_cases c1 : nI j = nI i
      · simp [g1', f1', c1, h]
      · have hji : j ≠ i := fun q => c1 (by rw [q])
        have e0 : (0 : Int32).toInt = 0 := rfl
        have e1 : (1000 : Int32).toInt = 1000 := rfl
        have e2 : (0 : Int64).toInt = 0 := rfl
        have e3 : (1000 : Int64).toInt = 1000 := rfl
        have eq3 : ((0 : Int64).toInt ≤ x3.toInt64.toInt ∧ x3.toInt64.toInt ≤ (1000 : Int64).toInt) ↔ (0 ≤ x3.toInt ∧ x3.toInt ≤ 1000) := by rw [Int32.toInt_toInt64, e2, e3]
        have es : nI j * 12 + nI i = nI (12 * j + i) := by
          rw [show (12 : Int32) = nI 12 from rfl, pk_mul, nI_add, Nat.mul_comm]
        have es2 : 12 * nI j + nI i = nI (12 * j + i) := by
          rw [show (12 : Int32) = nI 12 from rfl, pk_mul, nI_add]
        have hin : vp_in (nI (12 * j + i)) 144 := vp_in_nI (by omega) (by decide)
        simp only [eq3, es, es2]
        by_cases c2 : 0 ≤ x3.toInt ∧ x3.toInt ≤ 1000
        · have c3 : ¬ x3 < 0 := by rw [i32_lt e0]; omega
          have c4 : x3 ≤ 1000 := by rw [i32_le e1]; omega
          obtain ⟨t, t1, t2, t3⟩ := nI_of_r (x := x3) (m := 1000) c2.1 (by omega)
          have key : ∀ z : Int32, (z = 0 ∨ z = 1) → Rel (s4_wz (s4_wa u 8 (nI (12 * j + i)) x3) 9 (nI (12 * j + i)) z) (s4_wz (s4_wa v 10 (nI (12 * j + i)) x3) 11 (nI (12 * j + i)) z) := by
            intro z hz01
            refine ⟨n, k, d, w, hn, hz, ⟨k12, iu, iv, hs⟩, hh, hl, hc, ⟨?_, ?_, fun q => ?_, fun q => ?_, fun q hq => ?_⟩, hd, hw⟩
            · show upd (s4_a u 8) _ x3 = upd (s4_a v 10) _ x3
              rw [t8]
            · show upd (s4_a u 9) _ _ = upd (s4_a v 11) _ _
              rw [t9]
            · show upd (s4_a v 11) _ (vp_nar .boolean z) q = 0 ∨ upd (s4_a v 11) _ (vp_nar .boolean z) q = 1
              unfold upd
              by_cases hq : q = (nI (12 * j + i)).toNatClampNeg
              · rw [if_pos hq]
                rcases hz01 with rfl | rfl
                · exact Or.inl rfl
                · exact Or.inr rfl
              · rw [if_neg hq]; exact tz q
            · show ∃ t : Nat, t ≤ 1000 ∧ upd (s4_a v 10) _ x3 q = nI t
              unfold upd
              by_cases hq : q = (nI (12 * j + i)).toNatClampNeg
              · rw [if_pos hq]; exact ⟨t, t1, t2⟩
              · rw [if_neg hq]; exact tr q
            · show upd (s4_a v 10) (nI (12 * j + i)).toNatClampNeg x3 (12 * q + q) = 0
              unfold upd
              rw [nI_clamp (by omega), if_neg (by omega)]
              exact td q hq
          rcases hzx4 with rfl | rfl
          · simp only [g1', f1', c1, c2, c3, c4, if_true, if_false, not_false_eq_true, not_true_eq_false, true_implies, false_implies, and_true, and_self]
            exact ⟨hin, hin, trivial, key 1 (Or.inr rfl)⟩
          · simp only [g1', f1', c1, c2, c3, c4, one_ne, if_true, if_false, not_false_eq_true, not_true_eq_false, true_implies, false_implies, and_true, true_and, and_self]
            exact ⟨hin, hin, key 0 (Or.inl rfl)⟩
        · by_cases c3 : x3 < 0
          · simp [g1', f1', c1, c2, c3, h]
          · have c4 : ¬ x3 ≤ 1000 := by
              rw [i32_le e1]
              rw [i32_lt e0] at c3
              omega
            simp [g1', f1', c1, c2, c3, c4, h]
theorem sd_eq {u v : S4} {k : Nat} (iu : s4_i u 1 = nI k) (iv : s4_i v 1 = nI k) (x y : Int32) : xp_O_isSide u x y = mp_M_isSide v x y := by
  unfold xp_O_isSide mp_M_isSide
  rw [sh_eq iu iv]
theorem isSide_or {v : S4} {k : Nat} (iv : s4_i v 1 = nI k) (hk : k ≤ 12) (x y : Int32) : mp_M_isSide v x y = 0 ∨ (mp_M_isSide v x y = 1 ∧ ∃ f : Nat, f < 2 * k ∧ 2 * x + y = nI f) := by
  unfold mp_M_isSide
  rcases isStreet_or iv (by omega) x with h0 | ⟨h1, j, hj, rfl⟩
  · left; simp [h0]
  · have h1' : ¬ mp_M_isStreet v (nI j) = 0 := by rw [h1]; exact one_ne
    have e2 : ∀ i : Nat, 2 * nI j + nI i = nI (2 * j + i) := fun i => by
      rw [show (2 : Int32) = nI 2 from rfl, pk_mul, nI_add]
    by_cases c0 : y = 0
    · subst c0
      right
      exact ⟨by simp [h1'], 2 * j + 0, by omega, e2 0⟩
    · by_cases c1 : y = 1
      · subst c1
        right
        exact ⟨by simp [h1'], 2 * j + 1, by omega, e2 1⟩
      · left; simp [h1', c0, c1]
theorem op_need {u v : S4} (h : Rel u v) (x1 : Int32) (x2 : Int32) : (xq_O_need u x1 x2) ∧ (mq_M_need v x1 x2) ∧ (xp_O_need u x1 x2).1 = (mp_M_need v x1 x2).1 ∧ Rel (xp_O_need u x1 x2).2 (mp_M_need v x1 x2).2 := by
  obtain ⟨n, k, d, w, hn, hz, ⟨k12, iu, iv, hs⟩, hh, hl, hc, ht, ⟨d20, ju, jv, ha, hj⟩, hw⟩ := id h
  have hlt : (s4_i u 4 < 20) ↔ d < 20 := by rw [ju]; exact nI_ltI (by omega) (by decide)
  have heq : (s4_i v 2 = 20) ↔ d = 20 := by rw [jv]; exact nI_eq (by omega) (by decide)
  unfold xq_O_need mq_M_need xp_O_need mp_M_need
  simp only [sd_eq iu iv, xq_Needs_add, xp_Needs_add, xp_O_numberOf, hlt, heq]
  rcases isSide_or iv k12 x1 x2 with g0 | ⟨g1, f, hf, ef⟩
  · by_cases h8 : d = 20 <;> simp [g0, h8, h]
  · have g1' : ¬ mp_M_isSide v x1 x2 = 0 := by rw [g1]; exact one_ne
    by_cases h8 : d = 20
    · simp [g1', h8, h]
    · have h8' : d < 20 := by omega
      have hin : vp_in (nI d) 20 := vp_in_nI h8' (by decide)
      simp only [g1', h8, h8', ef, if_true, if_false, not_false_eq_true, true_implies]
      refine ⟨by rw [ju]; exact hin, by rw [jv]; exact hin, ?_, n, k, d + 1, w, hn, hz, ⟨k12, iu, iv, hs⟩, hh, hl, hc, ht, ⟨by omega, ?_, ?_, ?_, fun q hq => ?_⟩, hw⟩
      · show s4_i u 4 + 1 - 1 = s4_i v 2 + 1 - 1; rw [ju, jv]
      · show s4_i u 4 + 1 = nI (d + 1); rw [ju]; exact nI_1 d
      · show s4_i v 2 + 1 = nI (d + 1); rw [jv]; exact nI_1 d
      · show upd (s4_a u 17) (s4_i u 4).toNatClampNeg (nI f) = upd (s4_a v 12) (s4_i v 2).toNatClampNeg (nI f)
        rw [ha, ju, jv]
      · show ∃ x : Nat, x < 2 * k ∧ upd (s4_a v 12) (s4_i v 2).toNatClampNeg (nI f) q = nI x
        rw [jv, nI_clamp (by omega)]
        unfold upd
        by_cases hqd : q = d
        · rw [if_pos hqd]; exact ⟨f, hf, rfl⟩
        · rw [if_neg hqd]; exact hj q (by omega)
theorem hw_or {u v : S4} {w : Nat} (hw : rl_w w u v) (x : Int32) : (xp_HeldWay_has u x = 0 ∧ (x < 0 ∨ (¬ x < 0 ∧ s4_i v 3 ≤ x))) ∨ (xp_HeldWay_has u x = 1 ∧ ¬ x < 0 ∧ ¬ s4_i v 3 ≤ x ∧ ∃ j, j < w ∧ x = nI j) := by
  obtain ⟨w24, iu, iv, hj⟩ := hw
  unfold xp_HeldWay_has
  rw [iu]
  have hv : ∀ x : Int32, ¬ x < 0 → (s4_i v 3 ≤ x ↔ nI w ≤ x) := fun x hx => by
    rcases iv with iv | ⟨w0, iv⟩
    · rw [iv]
    · subst w0
      rw [iv]
      rw [Int32.lt_iff_toInt_lt] at hx
      have e0 : (0 : Int32).toInt = 0 := rfl
      have e1 : (-1 : Int32).toInt = -1 := rfl
      have e2 : (nI 0).toInt = 0 := rfl
      rw [Int32.le_iff_toInt_le, Int32.le_iff_toInt_le, e1, e2]
      omega
  rcases ix_or x (n := w) (by omega) with (h | ⟨h1, h2⟩) | ⟨j, h1, h2, h3, h4⟩
  · left; exact ⟨by simp [h], Or.inl h⟩
  · left; exact ⟨by simp [h1, h2], Or.inr ⟨h1, (hv x h1).mpr h2⟩⟩
  · right; exact ⟨by simp [h3, h4], h3, fun q => h4 ((hv x h3).mp q), j, h1, h2⟩
theorem op_way {u v : S4} (h : Rel u v) (x1 : Int32) : (xq_O_way u x1) ∧ (mq_M_way v x1) ∧ xp_O_way u x1 = mp_M_way v x1 ∧ Rel u v := by
  obtain ⟨n, k, d, w, hn, hz, hs, hh, hl, hc, ht, hd, hw⟩ := id h
  unfold xq_O_way mq_M_way xp_O_way mp_M_way
  simp only [xq_HeldWay_sideAt, xp_HeldWay_sideAt]
  rcases hw_or hw x1 with ⟨h0, h1 | ⟨h1, h2⟩⟩ | ⟨h0, h1, h2, j, hj, rfl⟩
  · simp [h0, h1, h]
  · simp [h0, h1, h2, h]
  · have h0' : ¬ xp_HeldWay_has u (nI j) = 0 := by rw [h0]; exact one_ne
    have hin : vp_in (nI j) 24 := vp_in_nI (by have := hw.1; omega) (by decide)
    have hjb : j < 2 ^ 31 := by have := hw.1; omega
    simp only [h0', h1, h2, if_false, not_false_eq_true, true_implies, s4_ra_n hjb]
    exact ⟨hin, hin, (hw.2.2.2 j hj).1, h⟩
theorem op_begun {u v : S4} (h : Rel u v) (x1 : Int32) : (xq_O_begun u x1) ∧ (mq_M_begun1 v x1) ∧ xp_O_begun u x1 = mp_M_begun1 v x1 ∧ Rel u v := by
  obtain ⟨n, k, d, w, hn, hz, hs, hh, hl, hc, ht, hd, hw⟩ := id h
  unfold xq_O_begun mq_M_begun1 xp_O_begun mp_M_begun1
  simp only [xq_HeldWay_secondAt, xp_HeldWay_secondAt]
  rcases hw_or hw x1 with ⟨h0, h1 | ⟨h1, h2⟩⟩ | ⟨h0, h1, h2, j, hj, rfl⟩
  · simp [h0, h1, h]
  · simp [h0, h1, h2, h]
  · have h0' : ¬ xp_HeldWay_has u (nI j) = 0 := by rw [h0]; exact one_ne
    have hin : vp_in (nI j) 24 := vp_in_nI (by have := hw.1; omega) (by decide)
    have hjb : j < 2 ^ 31 := by have := hw.1; omega
    simp only [h0', h1, h2, if_false, not_false_eq_true, true_implies, s4_ra_n hjb]
    exact ⟨hin, hin, (hw.2.2.2 j hj).2, h⟩
theorem i2l_sub {a b : Int32} (ha : -100000 ≤ a.toInt ∧ a.toInt ≤ 100000) (hb : -100000 ≤ b.toInt ∧ b.toInt ≤ 100000) : (a - b).toInt64 = a.toInt64 - b.toInt64 := by
  refine Int64.toInt_inj.mp ?_
  rw [Int32.toInt_toInt64, Int32.toInt_sub, Int64.toInt_sub, Int32.toInt_toInt64, Int32.toInt_toInt64]
  rw [show (2 : Nat) ^ 32 = 4294967296 from rfl, show (2 : Nat) ^ 64 = 18446744073709551616 from rfl, bm32 (by omega) (by omega), bm64 (by omega) (by omega)]
theorem op_span {u v : S4} (h : Rel u v) (x1 : Int32) : (xq_O_span u x1) ∧ (mq_M_span v x1) ∧ xp_O_span u x1 = mp_M_span v x1 ∧ Rel u v := by
  obtain ⟨n, k, d, w, ⟨n8, ju, jv, hxy, hr⟩, hz, ⟨k12, iu, iv, e2, e3, e4, e5, hs⟩, hh, hl, hc, ht, hd, hw⟩ := id h
  unfold xq_O_span mq_M_span xp_O_span mp_M_span
  simp only [sh_eq iu iv, xq_Net_squareBetweenEnds, xp_Net_squareBetweenEnds, xq_Streets_nodeAOf, xp_Streets_nodeAOf, xq_Streets_nodeBOf, xp_Streets_nodeBOf, xq_Nodes_squareBetween, xp_Nodes_squareBetween]
  rcases isStreet_or iv (by omega) x1 with g0 | ⟨g1, j, hjk, rfl⟩
  · simp [g0, h]
  · have g1' : ¬ mp_M_isStreet v (nI j) = 0 := by rw [g1]; exact one_ne
    obtain ⟨a, b, t, q, a1, b1, ab, t1, t2, q1, f3, f4, f5, f6⟩ := hs j hjk
    have hin : vp_in (nI j) 12 := vp_in_nI (by omega) (by decide)
    have hia : vp_in (nI a) 8 := vp_in_nI (by omega) (by decide)
    have hib : vp_in (nI b) 8 := vp_in_nI (by omega) (by decide)
    have u2 : s4_ra u 2 (nI j) = nI a := by rw [s4_ra_n (by omega), e2, f3]
    have u3 : s4_ra u 3 (nI j) = nI b := by rw [s4_ra_n (by omega), e3, f4]
    have v3 : s4_ra v 3 (nI j) = nI a := by rw [s4_ra_n (by omega), f3]
    have v4 : s4_ra v 4 (nI j) = nI b := by rw [s4_ra_n (by omega), f4]
    simp only [g1', if_false, not_false_eq_true, true_implies, u2, u3, v3, v4]
    refine ⟨⟨hin, hin, hia, hib, hia, hib⟩, ⟨hin, hia, hin, hib, hin, hia, hin, hib⟩, ?_, h⟩
    rw [s4_rb_n (by omega), s4_rb_n (by omega), s4_rb_n (by omega), s4_rb_n (by omega), s4_ra_n (by omega), s4_ra_n (by omega), s4_ra_n (by omega), s4_ra_n (by omega), (hxy a).1, (hxy a).2, (hxy b).1, (hxy b).2, i2l_sub (hr a).1 (hr b).1, i2l_sub (hr a).2 (hr b).2]
