theorem op_street {u v : S4} (h : Rel u v) (x1 : Int32) (x2 : Int32) (x3 : Int32) (x4 : Int32) : (xq_O_street u x1 x2 x3 x4) ∧ (mq_M_street v x1 x2 x3 x4) ∧ (xp_O_street u x1 x2 x3 x4).1 = (mp_M_street v x1 x2 x3 x4).1 ∧ Rel (xp_O_street u x1 x2 x3 x4).2 (mp_M_street v x1 x2 x3 x4).2 := by
  obtain ⟨n, k, d, w, ⟨n8, mu, mv, hxy, hr⟩, hz, ⟨k12, iu, iv, e2, e3, e4, e5, hs⟩, ⟨h6, h7, h0, hh⟩, ⟨l0, l1, lj⟩, hc, ht, ⟨d20, ju, jv, ha, hd⟩, hw⟩ := id h
  have hlt : (s4_i u 1 < 12) ↔ k < 12 := by rw [iu]; exact nI_ltI (by omega) (by decide)
  have heq : (s4_i v 1 = 12) ↔ k = 12 := by rw [iv]; exact nI_eq (by omega) (by decide)
  have f0 : (0 : Int32).toInt = 0 := rfl
  have f1 : (1 : Int32).toInt = 1 := rfl
  have f3 : (3 : Int32).toInt = 3 := rfl
  have fK : (10000 : Int32).toInt = 10000 := rfl
  have w3 : mp_M_isIn v x3.toInt64 1 10000 = 0 ↔ ¬ (1 ≤ x3.toInt ∧ x3.toInt ≤ 10000) := by rw [isIn_iff, Int32.toInt_toInt64]; rfl
  have w4 : mp_M_isIn v x4.toInt64 0 3 = 0 ↔ ¬ (0 ≤ x4.toInt ∧ x4.toInt ≤ 3) := by rw [isIn_iff, Int32.toInt_toInt64]; rfl
  have y3 : ¬ (x3 < 1) ∧ x3 ≤ 10000 ↔ (1 ≤ x3.toInt ∧ x3.toInt ≤ 10000) := by rw [i32_lt f1, i32_le fK]; omega
  have y4 : ¬ (x4 < 0) ∧ x4 ≤ 3 ↔ (0 ≤ x4.toInt ∧ x4.toInt ≤ 3) := by rw [i32_lt f0, i32_le f3]; omega
  have refuse : xp_O_street u x1 x2 x3 x4 = (-1, u) → xq_O_street u x1 x2 x3 x4 → mp_M_street v x1 x2 x3 x4 = (-1, v) → mq_M_street v x1 x2 x3 x4 → (xq_O_street u x1 x2 x3 x4) ∧ (mq_M_street v x1 x2 x3 x4) ∧ (xp_O_street u x1 x2 x3 x4).1 = (mp_M_street v x1 x2 x3 x4).1 ∧ Rel (xp_O_street u x1 x2 x3 x4).2 (mp_M_street v x1 x2 x3 x4).2 := fun a b c d => op_mk b d a c h
  rcases isNode_or mv (by omega) x1 with g0 | ⟨g1, a, ha1, rfl⟩
  · refine refuse ?_ ?_ ?_ ?_
    · simp [xp_O_street, nh_eq mu mv, g0]
    · simp [xq_O_street, nh_eq mu mv, g0]
    · simp [mp_M_street, g0]
    · simp [mq_M_street, g0]
  · have g1' : ¬ mp_M_isNode v (nI a) = 0 := by rw [g1]; exact one_ne
    rcases isNode_or mv (by omega) x2 with c0 | ⟨c1, b, hb1, rfl⟩
    · refine refuse ?_ ?_ ?_ ?_
      · simp [xp_O_street, nh_eq mu mv, g1', c0]
      · simp [xq_O_street, nh_eq mu mv, g1', c0]
      · simp [mp_M_street, g1', c0]
      · simp [mq_M_street, g1', c0]
    · have c1' : ¬ mp_M_isNode v (nI b) = 0 := by rw [c1]; exact one_ne
      by_cases hab : nI a = nI b
      · refine refuse ?_ ?_ ?_ ?_
        · simp [xp_O_street, nh_eq mu mv, g1', c1', hab]
        · simp [xq_O_street, hab]
        · simp [mp_M_street, hab]
        · simp [mq_M_street, hab]
      · by_cases r3 : 1 ≤ x3.toInt ∧ x3.toInt ≤ 10000
        · have s3 := y3.mpr r3
          have t3 : ¬ mp_M_isIn v x3.toInt64 1 10000 = 0 := fun q => w3.mp q r3
          by_cases r4 : 0 ≤ x4.toInt ∧ x4.toInt ≤ 3
          · have s4 := y4.mpr r4
            have t4 : ¬ mp_M_isIn v x4.toInt64 0 3 = 0 := fun q => w4.mp q r4
            by_cases hk : k = 12
            · refine refuse ?_ ?_ ?_ ?_
              · simp [xp_O_street, nh_eq mu mv, g1', c1', hab, s3, s4, xp_Streets_add, hlt, hk]
              · simp [xq_O_street, xq_Streets_add, hlt, hk]
              · simp [mp_M_street, heq, hk]
              · simp [mq_M_street, heq, hk]
            · have hk' : k < 12 := by omega
              obtain ⟨t, t1, rfl, t2⟩ := nI_of_r (x := x3) (m := 10000) (by omega) (by omega)
              obtain ⟨q, q1, rfl, q2⟩ := nI_of_r (x := x4) (m := 3) (by omega) (by omega)
              have hin : vp_in (nI k) 12 := vp_in_nI hk' (by decide)
              have hne : a ≠ b := fun z => hab (by rw [z])
              have hkc : (nI k).toNatClampNeg = k := nI_clamp (by omega)
              let B : S4 := s4_wa (s4_wa (s4_wa (s4_wa (s4_wa (s4_wa (s4_si u 1 (nI k + 1)) 2 (nI k) (nI a)) 3 (nI k) (nI b)) 4 (nI k) (nI t)) 5 (nI k) (nI q)) 6 (nI k) 0) 7 (nI k) 86399
              let B1 : S4 := s4_sb B 3 (vp_updL (s4_b B 3) (2 * k + 0) 1000000)
              let B2 : S4 := s4_sb B1 3 (vp_updL (s4_b B1 3) (2 * k + 1) 1000000)
              have hg1 := x_sG B (j := k) (i := 0) (z := 1000000) hk' (by decide)
              have hg2 := x_sG B1 (j := k) (i := 1) (z := 1000000) hk' (by decide)
              let V : S4 := s4_si (s4_wa (s4_wb (s4_wb (s4_wa (s4_wa (s4_wa (s4_wa v 3 (s4_i v 1) (nI a)) 4 (s4_i v 1) (nI b)) 5 (s4_i v 1) (nI t)) 6 (s4_i v 1) (nI q)) 0 (s4_i v 1) 1000000) 1 (s4_i v 1) 1000000) 8 (s4_i v 1) 86399) 1 (s4_i v 1 + 1)
              have hadd : xp_Streets_add u (nI a) (nI b) (nI t) (nI q) = (nI k, B2) ∧ xq_Streets_add u (nI a) (nI b) (nI t) (nI q) := by
                unfold xp_Streets_add xq_Streets_add
                have hkl : nI k < (12 : Int32) := by rw [← iu]; exact hlt.mpr hk'
                simp only [iu, hkl, if_true, true_implies]
                refine ⟨?_, hin, hin, hin, hin, ⟨hin, hin⟩, ?_, ?_⟩
                · have e1 : xp_Streets_setGreatest B (nI k) 0 1000000 = B1 := hg1.1
                  have e2 : xp_Streets_setGreatest B1 (nI k) 1 1000000 = B2 := hg2.1
                  rw [← e2, ← e1]
                  rfl
                · exact hg1.2
                · have e1 : xp_Streets_setGreatest B (nI k) 0 1000000 = B1 := hg1.1
                  show xq_Streets_setGreatest (xp_Streets_setGreatest B (nI k) 0 1000000) (nI k) 1 1000000
                  rw [e1]
                  exact hg2.2
              refine op_mk (r := nI k) (U := B2) (V := V) ?_ ?_ ?_ ?_ ?_
              · simp only [xq_O_street, nh_eq mu mv, g1', c1', hab, s3, s4, not_false_eq_true, true_implies]
                exact hadd.2
              · simp only [mq_M_street, heq, hk, g1', c1', hab, t3, t4, not_false_eq_true, true_implies]
                have z : ∀ V' : S4, s4_i V' 1 = s4_i v 1 → vp_in (s4_i V' 1) 12 := fun V' e => by rw [e, iv]; exact hin
                exact ⟨z _ rfl, z _ rfl, z _ rfl, z _ rfl, z _ rfl, z _ rfl, z _ rfl⟩
              · simp only [xp_O_street, nh_eq mu mv, g1', c1', hab, s3, s4, if_true, if_false]
                rw [hadd.1]
              · simp only [mp_M_street, heq, hk, g1', c1', hab, t3, t4, if_false]
                refine Prod.ext ?_ rfl
                show s4_i v 1 + 1 - 1 = nI k
                rw [iv]
                simp
              · refine ⟨n, k + 1, d, w, ⟨n8, mu, mv, hxy, hr⟩, hz, ⟨by omega, ?_, ?_, ?_, ?_, ?_, ?_, fun j hj => ?_⟩, ⟨?_, ?_, fun j hj => h0 j (by omega), fun j hj => ?_⟩, ⟨l0, l1, fun j hj => ?_⟩, hc, ht, ⟨d20, ju, jv, ha, fun j hj => ?_⟩, hw⟩
                · show nI k + 1 = nI (k + 1)
                  exact nI_1 k
                · show s4_i v 1 + 1 = nI (k + 1)
                  rw [iv]; exact nI_1 k
                · show upd (s4_a u 2) (nI k).toNatClampNeg (nI a) = upd (s4_a v 3) (s4_i v 1).toNatClampNeg (nI a)
                  rw [e2, iv]
                · show upd (s4_a u 3) (nI k).toNatClampNeg (nI b) = upd (s4_a v 4) (s4_i v 1).toNatClampNeg (nI b)
                  rw [e3, iv]
                · show upd (s4_a u 4) (nI k).toNatClampNeg (nI t) = upd (s4_a v 5) (s4_i v 1).toNatClampNeg (nI t)
                  rw [e4, iv]
                · show upd (s4_a u 5) (nI k).toNatClampNeg (nI q) = upd (s4_a v 6) (s4_i v 1).toNatClampNeg (nI q)
                  rw [e5, iv]
                · show ∃ a' b' t' q' : Nat, a' < n ∧ b' < n ∧ a' ≠ b' ∧ 1 ≤ t' ∧ t' ≤ 10000 ∧ q' ≤ 3 ∧ upd (s4_a v 3) (s4_i v 1).toNatClampNeg (nI a) j = nI a' ∧ upd (s4_a v 4) (s4_i v 1).toNatClampNeg (nI b) j = nI b' ∧ upd (s4_a v 5) (s4_i v 1).toNatClampNeg (nI t) j = nI t' ∧ upd (s4_a v 6) (s4_i v 1).toNatClampNeg (nI q) j = nI q'
                  rw [iv, hkc]
                  unfold upd
                  by_cases hjk : j = k
                  · rw [if_pos hjk, if_pos hjk, if_pos hjk, if_pos hjk]
                    exact ⟨a, b, t, q, ha1, hb1, hne, by omega, t1, q1, rfl, rfl, rfl, rfl⟩
                  · rw [if_neg hjk, if_neg hjk, if_neg hjk, if_neg hjk]
                    exact hs j (by omega)
                · show upd (s4_a u 6) (nI k).toNatClampNeg 0 = s4_a v 7
                  rw [hkc, h6]
                  funext j
                  unfold upd
                  by_cases hjk : j = k
                  · rw [if_pos hjk, hjk]; exact (h0 k (Nat.le_refl _)).symm
                  · rw [if_neg hjk]
                · show upd (s4_a u 7) (nI k).toNatClampNeg 86399 = upd (s4_a v 8) (s4_i v 1).toNatClampNeg 86399
                  rw [h7, iv]
                · show ∃ a' b' : Nat, a' ≤ b' ∧ b' < 86400 ∧ s4_a v 7 j = nI a' ∧ upd (s4_a v 8) (s4_i v 1).toNatClampNeg 86399 j = nI b'
                  rw [iv, hkc]
                  unfold upd
                  by_cases hjk : j = k
                  · rw [if_pos hjk]
                    exact ⟨0, 86399, by decide, by decide, by rw [hjk]; exact h0 k (Nat.le_refl _), rfl⟩
                  · rw [if_neg hjk]
                    exact hh j (by omega)
                · show vp_updL (vp_updL (s4_b u 3) (2 * k + 0) 1000000) (2 * k + 1) 1000000 (2 * j) = vp_updL (s4_b v 0) (s4_i v 1).toNatClampNeg 1000000 j ∧ vp_updL (vp_updL (s4_b u 3) (2 * k + 0) 1000000) (2 * k + 1) 1000000 (2 * j + 1) = vp_updL (s4_b v 1) (s4_i v 1).toNatClampNeg 1000000 j
                  rw [iv, hkc]
                  unfold vp_updL
                  by_cases hjk : j = k
                  · rw [if_neg (show ¬ 2 * j = 2 * k + 1 by omega), if_pos (show 2 * j = 2 * k + 0 by omega), if_pos hjk, if_pos (show 2 * j + 1 = 2 * k + 1 by omega), if_pos hjk]
                    exact ⟨rfl, rfl⟩
                  · rw [if_neg (show ¬ 2 * j = 2 * k + 1 by omega), if_neg (show ¬ 2 * j = 2 * k + 0 by omega), if_neg hjk, if_neg (show ¬ 2 * j + 1 = 2 * k + 1 by omega), if_neg (show ¬ 2 * j + 1 = 2 * k + 0 by omega), if_neg hjk]
                    exact lj j hj
                · obtain ⟨x, hx1, hx2⟩ := hd j hj
                  exact ⟨x, by omega, hx2⟩
          · have t4 := w4.mpr r4
            have s4 : ¬ (¬ x4 < 0 ∧ x4 ≤ 3) := fun q => r4 (y4.mp q)
            refine refuse ?_ ?_ ?_ ?_
            · by_cases z : x4 < 0
              · simp [xp_O_street, nh_eq mu mv, g1', c1', hab, z]
              · have z2 : ¬ x4 ≤ 3 := fun q => s4 ⟨z, q⟩
                simp [xp_O_street, nh_eq mu mv, g1', c1', hab, z2]
            · by_cases z : x4 < 0
              · simp [xq_O_street, z]
              · have z2 : ¬ x4 ≤ 3 := fun q => s4 ⟨z, q⟩
                simp [xq_O_street, z2]
            · simp [mp_M_street, t4]
            · simp [mq_M_street, t4]
        · have t3 := w3.mpr r3
          have s3 : ¬ (¬ x3 < 1 ∧ x3 ≤ 10000) := fun q => r3 (y3.mp q)
          refine refuse ?_ ?_ ?_ ?_
          · by_cases z : x3 < 1
            · simp [xp_O_street, nh_eq mu mv, g1', c1', hab, z]
            · have z2 : ¬ x3 ≤ 10000 := fun q => s3 ⟨z, q⟩
              simp [xp_O_street, nh_eq mu mv, g1', c1', hab, z2]
          · by_cases z : x3 < 1
            · simp [xq_O_street, z]
            · have z2 : ¬ x3 ≤ 10000 := fun q => s3 ⟨z, q⟩
              simp [xq_O_street, z2]
          · simp [mp_M_street, t3]
          · simp [mq_M_street, t3]
