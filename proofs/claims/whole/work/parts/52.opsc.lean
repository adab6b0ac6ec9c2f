theorem op_mk {qx qm : Prop} {px pm : Int32 × S4} {r : Int32} {U V : S4} (hqx : qx) (hqm : qm) (hx : px = (r, U)) (hm : pm = (r, V)) (hR : Rel U V) : qx ∧ qm ∧ px.1 = pm.1 ∧ Rel px.2 pm.2 := by
  subst hx; subst hm; exact ⟨hqx, hqm, rfl, hR⟩
theorem nI_ne_m1 {j : Nat} (h : j < 2 ^ 31) : ¬ nI j = -1 := fun q => by
  have h1 := congrArg Int32.toInt q
  rw [nI_toInt h] at h1
  have e1 : (-1 : Int32).toInt = -1 := rfl
  omega
theorem x_sG (u : S4) {j i : Nat} {z : Int64} (hj : j < 12) (hi : i < 2) : xp_Streets_setGreatest u (nI j) (nI i) z = s4_sb u 3 (vp_updL (s4_b u 3) (2 * j + i) z) ∧ xq_Streets_setGreatest u (nI j) (nI i) z := by
  have e : nI j * 2 + nI i = nI (2 * j + i) := by rw [show (2 : Int32) = nI 2 from rfl, pk_mul, nI_add, Nat.mul_comm]
  unfold xp_Streets_setGreatest xq_Streets_setGreatest
  rw [e]
  exact ⟨s4_wb_n (by omega), vp_in_nI (by omega) (by decide)⟩
theorem op_limit {u v : S4} (h : Rel u v) (x1 : Int32) (x2 : Int32) (x3 : Int64) : (xq_O_limit u x1 x2 x3) ∧ (mq_M_limit v x1 x2 x3) ∧ (xp_O_limit u x1 x2 x3).1 = (mp_M_limit v x1 x2 x3).1 ∧ Rel (xp_O_limit u x1 x2 x3).2 (mp_M_limit v x1 x2 x3).2 := by
  obtain ⟨n, k, d, w, hn, hz, ⟨k12, iu, iv, hs⟩, hh, ⟨l0, l1, lj⟩, hc, ht, hd, hw⟩ := id h
  have e0 : (0 : Int64).toInt = 0 := rfl
  have e1 : (1000000 : Int64).toInt = 1000000 := rfl
  have z1 : ¬ (0 : Int32) < 0 := by decide
  have z2 : ¬ (1 : Int32) < 0 := by decide
  have z3 : ¬ (1 : Int32) < 1 := by decide
  have z5 : ¬ (0 : Int32) = 1 := by decide
  have w1 : lg_cmp x3 0 < 0 ↔ x3.toInt < 0 := by rw [lc_lt, Int64.lt_iff_toInt_lt, e0]
  have w2 : lg_cmp x3 1000000 ≤ 0 ↔ x3.toInt ≤ 1000000 := by rw [lc_le, Int64.le_iff_toInt_le, e1]
  have w3 : mp_M_isIn v x3 0 1000000 = 0 ↔ ¬ (0 ≤ x3.toInt ∧ x3.toInt ≤ 1000000) := by rw [isIn_iff, e0, e1]
  by_cases hv : 0 ≤ x3.toInt ∧ x3.toInt ≤ 1000000
  · have v1 : ¬ lg_cmp x3 0 < 0 := by rw [w1]; omega
    have v2 : lg_cmp x3 1000000 ≤ 0 := w2.mpr hv.2
    have v3 : ¬ mp_M_isIn v x3 0 1000000 = 0 := fun q => w3.mp q hv
    have keyv : ∀ (U V : S4), U = s4_sb u 0 (s4_b U 0) → V = (v.1, V.2.1, v.2.2) → s4_b U 0 0 = s4_l V 0 → s4_b U 0 1 = s4_l V 1 → Rel U V := by
      intro U V hU hV g0 g1
      refine ⟨n, k, d, w, ?_⟩
      rw [hU, hV]
      rw [hV] at g0 g1
      exact ⟨hn, hz, ⟨k12, iu, iv, hs⟩, hh, ⟨g0, g1, lj⟩, hc, ht, hd, hw⟩
    have keys : ∀ (f : Nat → Int64) (g1 g2 : Nat → Int64), (∀ j, j < 12 → f (2 * j) = g1 j ∧ f (2 * j + 1) = g2 j) → Rel (s4_sb u 3 f) (s4_sb (s4_sb v 0 g1) 1 g2) := by
      intro f g1 g2 hf
      exact ⟨n, k, d, w, hn, hz, ⟨k12, iu, iv, hs⟩, hh, ⟨l0, l1, hf⟩, hc, ht, hd, hw⟩
    by_cases a0 : x2 = 0
    · subst a0
      by_cases b1 : x1 = -1
      · subst b1
        refine op_mk (r := 1) (U := s4_wb u 0 0 x3) (V := s4_sl (s4_sl v 0 x3) 1 (s4_l (s4_sl v 0 x3) 1)) ?_ ?_ ?_ ?_ (keyv _ _ rfl rfl rfl l1)
        · simp [xq_O_limit, v1, v2]
          exact vp_in_nI (n := 0) (by decide) (by decide)
        · simp [mq_M_limit]
        · simp [xp_O_limit, v1, v2]
        · simp [mp_M_limit, v3, z1, z2, z5]
      · rcases isStreet_or iv (by omega) x1 with g0 | ⟨g1, j, hjk, rfl⟩
        · exact op_mk (r := 0) (U := u) (V := v) (by simp [xq_O_limit, sh_eq iu iv, b1, g0]) (by simp [mq_M_limit, b1, g0]) (by simp [xp_O_limit, sh_eq iu iv, v1, v2, b1, g0]) (by simp [mp_M_limit, b1, g0]) h
        · have g1' : ¬ mp_M_isStreet v (nI j) = 0 := by rw [g1]; exact one_ne
          have hin : vp_in (nI j) 12 := vp_in_nI (by omega) (by decide)
          have hx := x_sG u (j := j) (i := 0) (z := x3) (by omega) (by decide)
          have eV : s4_wb (s4_wb v 0 (nI j) x3) 1 (nI j) (s4_rb (s4_wb v 0 (nI j) x3) 1 (nI j)) = s4_sb (s4_sb v 0 (vp_updL (s4_b v 0) j x3)) 1 (s4_b v 1) := by
            rw [s4_wb_n (by omega), s4_wb_n (by omega), s4_rb_n (by omega)]
            show s4_sb _ 1 (vp_updL (s4_b v 1) j (s4_b v 1 j)) = _
            congr 1
            funext q
            unfold vp_updL
            by_cases hq : q = j
            · rw [if_pos hq, hq]
            · rw [if_neg hq]
          refine op_mk (r := 1) (U := s4_sb u 3 (vp_updL (s4_b u 3) (2 * j + 0) x3)) (V := s4_wb (s4_wb v 0 (nI j) x3) 1 (nI j) (s4_rb (s4_wb v 0 (nI j) x3) 1 (nI j))) ?_ ?_ ?_ ?_ ?_
          · simp [xq_O_limit, sh_eq iu iv, v1, v2, b1, g1']
            exact hx.2
          · simp [mq_M_limit, b1, g1', hin]
          · simp [xp_O_limit, sh_eq iu iv, v1, v2, b1, g1']
            exact hx.1
          · simp [mp_M_limit, b1, g1', v3, z1, z2, z5]
          · rw [eV]
            refine keys _ _ _ (fun q hq => ?_)
            unfold vp_updL
            by_cases hqj : q = j
            · rw [if_pos (by omega), if_pos hqj, if_neg (by omega)]
              exact ⟨rfl, (lj q hq).2⟩
            · rw [if_neg (by omega), if_neg hqj, if_neg (by omega)]
              exact lj q hq
    · by_cases a1 : x2 = 1
      · subst a1
        by_cases b1 : x1 = -1
        · subst b1
          refine op_mk (r := 1) (U := s4_wb u 0 1 x3) (V := s4_sl (s4_sl v 0 (s4_l v 0)) 1 x3) ?_ ?_ ?_ ?_ (keyv _ _ rfl rfl l0 rfl)
          · simp [xq_O_limit, v1, v2, one_ne]
            exact vp_in_nI (n := 1) (by decide) (by decide)
          · simp [mq_M_limit]
          · simp [xp_O_limit, v1, v2, one_ne]
          · simp [mp_M_limit, v3, z2, z3, one_ne]
        · rcases isStreet_or iv (by omega) x1 with g0 | ⟨g1, j, hjk, rfl⟩
          · exact op_mk (r := 0) (U := u) (V := v) (by simp [xq_O_limit, sh_eq iu iv, b1, g0]) (by simp [mq_M_limit, b1, g0]) (by simp [xp_O_limit, sh_eq iu iv, v1, v2, b1, g0]) (by simp [mp_M_limit, b1, g0]) h
          · have g1' : ¬ mp_M_isStreet v (nI j) = 0 := by rw [g1]; exact one_ne
            have hin : vp_in (nI j) 12 := vp_in_nI (by omega) (by decide)
            have hx := x_sG u (j := j) (i := 1) (z := x3) (by omega) (by decide)
            have eV : s4_wb (s4_wb v 0 (nI j) (s4_rb v 0 (nI j))) 1 (nI j) x3 = s4_sb (s4_sb v 0 (s4_b v 0)) 1 (vp_updL (s4_b v 1) j x3) := by
              rw [s4_wb_n (by omega), s4_wb_n (by omega), s4_rb_n (by omega)]
              have e : vp_updL (s4_b v 0) j (s4_b v 0 j) = s4_b v 0 := by
                funext q
                unfold vp_updL
                by_cases hq : q = j
                · rw [if_pos hq, hq]
                · rw [if_neg hq]
              rw [e]
              rfl
            refine op_mk (r := 1) (U := s4_sb u 3 (vp_updL (s4_b u 3) (2 * j + 1) x3)) (V := s4_wb (s4_wb v 0 (nI j) (s4_rb v 0 (nI j))) 1 (nI j) x3) ?_ ?_ ?_ ?_ ?_
            · simp [xq_O_limit, sh_eq iu iv, v1, v2, b1, g1', one_ne]
              exact hx.2
            · simp [mq_M_limit, b1, g1', hin]
            · simp [xp_O_limit, sh_eq iu iv, v1, v2, b1, g1', one_ne]
              exact hx.1
            · simp [mp_M_limit, b1, g1', v3, z2, z3, one_ne]
            · rw [eV]
              refine keys _ _ _ (fun q hq => ?_)
              unfold vp_updL
              by_cases hqj : q = j
              · rw [if_neg (by omega), if_pos (by omega), if_pos hqj]
                exact ⟨(lj q hq).1, rfl⟩
              · rw [if_neg (by omega), if_neg (by omega), if_neg hqj]
                exact lj q hq
      · have hm : mp_M_limit v x1 x2 x3 = (0, v) ∧ mq_M_limit v x1 x2 x3 := by
          have hbad : x2 < 0 ∨ (¬ x2 < 0 ∧ 1 < x2) := by
            rw [Int32.lt_iff_toInt_lt, Int32.lt_iff_toInt_lt]
            have f0 : (0 : Int32).toInt = 0 := rfl
            have f1 : (1 : Int32).toInt = 1 := rfl
            have g0 : x2.toInt ≠ 0 := fun q => a0 (Int32.toInt_inj.mp (by rw [q]; rfl))
            have g1 : x2.toInt ≠ 1 := fun q => a1 (Int32.toInt_inj.mp (by rw [q]; rfl))
            omega
          rcases hbad with hb | ⟨hb1, hb2⟩
          · exact ⟨by simp [mp_M_limit, hb], by simp [mq_M_limit, hb]⟩
          · exact ⟨by simp [mp_M_limit, hb1, hb2], by simp [mq_M_limit, hb1, hb2]⟩
        exact op_mk (r := 0) (U := u) (V := v) (by simp [xq_O_limit, a0, a1]) hm.2 (by simp [xp_O_limit, a0, a1]) hm.1 h
  · have v3 : mp_M_isIn v x3 0 1000000 = 0 := w3.mpr hv
    have hx : xp_O_limit u x1 x2 x3 = (0, u) ∧ xq_O_limit u x1 x2 x3 := by
      by_cases v1 : lg_cmp x3 0 < 0
      · exact ⟨by simp [xp_O_limit, v1], by simp [xq_O_limit, v1]⟩
      · have v2 : ¬ lg_cmp x3 1000000 ≤ 0 := by rw [w2]; rw [w1] at v1; omega
        exact ⟨by simp [xp_O_limit, v2], by simp [xq_O_limit, v2]⟩
    exact op_mk (r := 0) (U := u) (V := v) hx.2 (by simp [mq_M_limit, v3]) hx.1 (by simp [mp_M_limit, v3]) h
theorem cl_bit : ∀ l, l < 64 → ((1 : Int64) <<< ((nI l).toInt64 &&& 63)).toBitVec = BitVec.twoPow 64 l := by decide +kernel
theorem cl_64 {y : Nat} (h : y < 2 ^ 31) : nI y - nI y / (64 : Int32) * (64 : Int32) = nI (y % 64) := pk_rem h (by decide) (by decide)
theorem cl_d64 {y : Nat} (h : y < 2 ^ 31) : nI y / (64 : Int32) = nI (y / 64) := pk_div h (by decide) (by decide)
theorem cl_w (u : S4) {j y : Nat} (hj : j < 12) (hy : y < 366) : xp_Streets_wordOf u (nI j) (nI y) = nI (6 * j + y / 64) := by
  unfold xp_Streets_wordOf
  rw [cl_d64 (by omega), show (6 : Int32) = nI 6 from rfl, pk_mul, nI_add, Nat.mul_comm]
theorem cl_b (u : S4) {y : Nat} (hy : y < 366) : (xp_Streets_bitOf u (nI y)).toBitVec = BitVec.twoPow 64 (y % 64) := by
  unfold xp_Streets_bitOf
  rw [cl_64 (by omega)]
  exact cl_bit _ (Nat.mod_lt _ (by decide))
theorem op_close {u v : S4} (h : Rel u v) (x1 : Int32) (x2 : Int32) (x3 : Int32) (hzx3 : x3 = 0 ∨ x3 = 1) : (xq_O_close u x1 x2 x3) ∧ (mq_M_close v x1 x2 x3) ∧ (xp_O_close u x1 x2 x3).1 = (mp_M_close v x1 x2 x3).1 ∧ Rel (xp_O_close u x1 x2 x3).2 (mp_M_close v x1 x2 x3).2 := by
  obtain ⟨n, k, d, w, hn, hz, ⟨k12, iu, iv, hs⟩, hh, hl, hc, ht, hd, hw⟩ := id h
  rcases isStreet_or iv (by omega) x1 with g0 | ⟨g1, j, hjk, rfl⟩
  · exact op_mk (r := 0) (U := u) (V := v) (by simp [xq_O_close, sh_eq iu iv, g0]) (by simp [mq_M_close, g0]) (by simp [xp_O_close, sh_eq iu iv, g0]) (by simp [mp_M_close, g0]) h
  · have g1' : ¬ mp_M_isStreet v (nI j) = 0 := by rw [g1]; exact one_ne
    by_cases c1 : x2 < 0
    · exact op_mk (r := 0) (U := u) (V := v) (by simp [xq_O_close, sh_eq iu iv, g1', c1]) (by simp [mq_M_close, g1', c1]) (by simp [xp_O_close, sh_eq iu iv, g1', c1]) (by simp [mp_M_close, g1', c1]) h
    · by_cases c2 : x2 < 366
      · have e0 : (0 : Int32).toInt = 0 := rfl
        have e3 : (366 : Int32).toInt = 366 := rfl
        obtain ⟨y, y1, rfl, y3⟩ := nI_of_r (x := x2) (m := 365) (by rw [i32_lt e0] at c1; omega) (by rw [i32_lt e3] at c2; omega)
        have hj : j < 12 := by omega
        have hy : y < 366 := by omega
        have hw' := cl_w u hj hy
        have hb' := cl_b u hy
        have es : 366 * nI j + nI y = nI (366 * j + y) := by rw [show (366 : Int32) = nI 366 from rfl, pk_mul, nI_add]
        have hinw : vp_in (nI (6 * j + y / 64)) 72 := vp_in_nI (by omega) (by decide)
        have hinc : vp_in (nI (366 * j + y)) 4392 := vp_in_nI (by omega) (by decide)
        have key : ∀ (g : Int64) (z : Int32), (z = 0 ∨ z = 1) → (∀ i, i < 64 → g.toBitVec.getLsbD i = if i = y % 64 then decide (z = 1) else (s4_b u 4 (6 * j + y / 64)).toBitVec.getLsbD i) → Rel (s4_wb u 4 (nI (6 * j + y / 64)) g) (s4_wz v 9 (nI (366 * j + y)) z) := by
          intro g z hz01 hg
          refine ⟨n, k, d, w, hn, hz, ⟨k12, iu, iv, hs⟩, hh, hl, fun j2 y2 hj2 hy2 => ?_, ht, hd, hw⟩
          rw [s4_wb_n (by omega), s4_wz_n (by omega) hz01]
          show (upd (s4_a v 9) (366 * j + y) z (366 * j2 + y2) = 0 ∧ (vp_updL (s4_b u 4) (6 * j + y / 64) g (6 * j2 + y2 / 64)).toBitVec.getLsbD (y2 % 64) = false) ∨ (upd (s4_a v 9) (366 * j + y) z (366 * j2 + y2) = 1 ∧ (vp_updL (s4_b u 4) (6 * j + y / 64) g (6 * j2 + y2 / 64)).toBitVec.getLsbD (y2 % 64) = true)
          unfold upd vp_updL
          by_cases hsame : j2 = j ∧ y2 = y
          · obtain ⟨rfl, rfl⟩ := hsame
            rw [if_pos rfl, if_pos rfl, hg _ (Nat.mod_lt _ (by decide)), if_pos rfl]
            rcases hz01 with rfl | rfl
            · exact Or.inl ⟨rfl, rfl⟩
            · exact Or.inr ⟨rfl, rfl⟩
          · rw [if_neg (show ¬ 366 * j2 + y2 = 366 * j + y by omega)]
            by_cases hword : 6 * j2 + y2 / 64 = 6 * j + y / 64
            · rw [if_pos hword, hg _ (Nat.mod_lt _ (by decide)), if_neg (by omega), ← hword]
              exact hc j2 y2 hj2 hy2
            · rw [if_neg hword]
              exact hc j2 y2 hj2 hy2
        rcases hzx3 with rfl | rfl
        · refine op_mk (r := 1) (U := s4_wb u 4 (nI (6 * j + y / 64)) (s4_rb u 4 (nI (6 * j + y / 64)) &&& (xp_Streets_bitOf u (nI y) ^^^ -1))) (V := s4_wz v 9 (nI (366 * j + y)) 0) ?_ ?_ ?_ ?_ (key _ _ (Or.inl rfl) (fun i hi => ?_))
          · simp only [xq_O_close, sh_eq iu iv, g1', c1, c2, xq_Streets_setClosed, hw', not_false_eq_true, true_implies]
            simp [hinw]
          · simp only [mq_M_close, g1', c1, c2, es, not_false_eq_true, true_implies]
            exact hinc
          · simp only [xp_O_close, sh_eq iu iv, g1', c1, c2, xp_Streets_setClosed, hw', if_true, if_false]
          · simp only [mp_M_close, g1', c1, c2, es, if_true, if_false]
          · rw [s4_rb_n (by omega)]
            rw [Int64.toBitVec_and, Int64.toBitVec_xor, hb']
            rw [BitVec.getLsbD_and, BitVec.getLsbD_xor, BitVec.getLsbD_twoPow]
            have em : (-1 : Int64).toBitVec = BitVec.allOnes 64 := by decide
            rw [em, BitVec.getLsbD_allOnes]
            by_cases hi2 : i = y % 64
            · subst hi2; simp [hi]
            · have : ¬ y % 64 = i := fun q => hi2 q.symm
              simp [hi, hi2, this]
        · refine op_mk (r := 1) (U := s4_wb u 4 (nI (6 * j + y / 64)) (s4_rb u 4 (nI (6 * j + y / 64)) ||| xp_Streets_bitOf u (nI y))) (V := s4_wz v 9 (nI (366 * j + y)) 1) ?_ ?_ ?_ ?_ (key _ _ (Or.inr rfl) (fun i hi => ?_))
          · simp only [xq_O_close, sh_eq iu iv, g1', c1, c2, xq_Streets_setClosed, hw', not_false_eq_true, true_implies]
            simp [hinw]
          · simp only [mq_M_close, g1', c1, c2, es, not_false_eq_true, true_implies]
            exact hinc
          · simp only [xp_O_close, sh_eq iu iv, g1', c1, c2, xp_Streets_setClosed, hw', one_ne, if_true, if_false]
          · simp only [mp_M_close, g1', c1, c2, es, if_true, if_false]
          · rw [s4_rb_n (by omega)]
            rw [Int64.toBitVec_or, hb']
            rw [BitVec.getLsbD_or, BitVec.getLsbD_twoPow]
            by_cases hi2 : i = y % 64
            · subst hi2; simp [hi]
            · have : ¬ y % 64 = i := fun q => hi2 q.symm
              simp [hi, hi2, this]
      · exact op_mk (r := 0) (U := u) (V := v) (by simp [xq_O_close, sh_eq iu iv, g1', c1, c2]) (by simp [mq_M_close, g1', c1, c2]) (by simp [xp_O_close, sh_eq iu iv, g1', c1, c2]) (by simp [mp_M_close, g1', c1, c2]) h
