/-! PURE: who goes on from where into what, and when: the class and the reference alike -/
def RelC (n k d : Nat) (u v : S4) : Prop := rl_n n u v ∧ rl_z u v ∧ rl_s n k u v ∧ rl_h k u v ∧ rl_l u v ∧ rl_c u v ∧ rl_t u v ∧ rl_d k d u v
theorem sd_rem2 {f : Nat} (h : f < 2 ^ 31) : nI f - nI (f / 2) * (2 : Int32) = nI (f % 2) := by rw [← sd_div h]; exact sd_rem h
theorem can_eq {n k d : Nat} {u v : S4} (h : RelC n k d u v) {f : Nat} (hf : f < 2 * k) : xq_Net_canBeDriven u (nI f) ∧ mq_M_canBeDriven v (nI f) ∧ xp_Net_canBeDriven u (nI f) = mp_M_canBeDriven v (nI f) ∧ (mp_M_canBeDriven v (nI f) = 0 ∨ mp_M_canBeDriven v (nI f) = 1) := by
  obtain ⟨hn, hz, ⟨k12, iu, iv, e2, e3, e4, e5, hs⟩, hh, ⟨l0, l1, lj⟩, hc, ht, hd⟩ := h
  have hj : f / 2 < k := by omega
  obtain ⟨a, b, t, q, a1, b1, ab, t1, t2, q1, f3, f4, f5, f6⟩ := hs (f / 2) hj
  have g1 := (lj (f / 2) (by omega)).1
  have g2 := (lj (f / 2) (by omega)).2
  have hin : vp_in (nI (f / 2)) 12 := vp_in_nI (by omega) (by decide)
  have i0 : vp_in (0 : Int32) 2 := vp_in_nI (n := 0) (by decide) (by decide)
  have i1 : vp_in (1 : Int32) 2 := vp_in_nI (n := 1) (by decide) (by decide)
  have es0 : nI (f / 2) * 2 + 0 = nI (2 * (f / 2)) := by rw [show (2 : Int32) = nI 2 from rfl, show (0 : Int32) = nI 0 from rfl, pk_mul, nI_add, Nat.mul_comm, Nat.add_zero]
  have es1 : nI (f / 2) * 2 + 1 = nI (2 * (f / 2) + 1) := by rw [show (2 : Int32) = nI 2 from rfl, show (1 : Int32) = nI 1 from rfl, pk_mul, nI_add, Nat.mul_comm]
  have in0 : vp_in (nI (2 * (f / 2))) 24 := vp_in_nI (by omega) (by decide)
  have in1 : vp_in (nI (2 * (f / 2) + 1)) 24 := vp_in_nI (by omega) (by decide)
  have b0 : s4_rb u 0 0 = s4_l v 0 := by rw [← l0]; rfl
  have b1' : s4_rb u 0 1 = s4_l v 1 := by rw [← l1]; rfl
  simp only [xq_Net_canBeDriven, mq_M_canBeDriven, xp_Net_canBeDriven, mp_M_canBeDriven, xp_O_streetOf, sd_div (show f < 2 ^ 31 by omega), sd_rem2 (show f < 2 ^ 31 by omega), xq_Streets_hasWay, xp_Streets_hasWay, xq_Streets_greatestOf, xp_Streets_greatestOf, es0, es1, s4_ra_n (show f / 2 < 2 ^ 31 by omega), s4_rb_n (show f / 2 < 2 ^ 31 by omega), s4_rb_n (show 2 * (f / 2) < 2 ^ 31 by omega), s4_rb_n (show 2 * (f / 2) + 1 < 2 ^ 31 by omega), e5, f6, g1, g2, b0, b1', hin, in0, in1, i0, i1, true_and, and_true, implies_true]
  rcases (show f % 2 = 0 ∨ f % 2 = 1 by omega) with hp | hp <;> rw [hp] <;>
  rcases (show q = 0 ∨ q = 1 ∨ q = 2 ∨ q = 3 by omega) with rfl | rfl | rfl | rfl <;>
  by_cases c1 : 0 < lg_cmp (s4_l v 0) (s4_b v 0 (f / 2)) <;> by_cases c2 : 0 < lg_cmp (s4_l v 1) (s4_b v 1 (f / 2)) <;> simp +decide [c1, c2]
/-- where a side ends and where it begins: nodes, told apart -/
theorem ends_eq {n k d : Nat} {u v : S4} (h : RelC n k d u v) {f : Nat} (hf : f < 2 * k) : ∃ a b : Nat, a < n ∧ b < n ∧ a ≠ b ∧ xp_Streets_endOf u (nI f) = nI a ∧ mp_M_endOf v (nI f) = nI a ∧ xp_Streets_startOf u (nI f) = nI b ∧ mp_M_beginOf v (nI f) = nI b ∧ xq_Streets_endOf u (nI f) ∧ mq_M_endOf v (nI f) ∧ xq_Streets_startOf u (nI f) ∧ mq_M_beginOf v (nI f) := by
  obtain ⟨hn, hz, ⟨k12, iu, iv, e2, e3, e4, e5, hs⟩, hh, hl, hc, ht, hd⟩ := h
  have hj : f / 2 < k := by omega
  obtain ⟨a, b, t, q, a1, b1, ab, t1, t2, q1, f3, f4, f5, f6⟩ := hs (f / 2) hj
  have hin : vp_in (nI (f / 2)) 12 := vp_in_nI (by omega) (by decide)
  simp only [xp_Streets_endOf, mp_M_endOf, xp_Streets_startOf, mp_M_beginOf, xq_Streets_endOf, mq_M_endOf, xq_Streets_startOf, mq_M_beginOf, xp_O_streetOf, sd_div (show f < 2 ^ 31 by omega), sd_rem2 (show f < 2 ^ 31 by omega), s4_ra_n (show f / 2 < 2 ^ 31 by omega), e2, e3, f3, f4, hin, implies_true, and_true, and_self]
  rcases (show f % 2 = 0 ∨ f % 2 = 1 by omega) with hp | hp <;> rw [hp]
  · exact ⟨b, a, b1, a1, fun z => ab z.symm, by simp +decide⟩
  · exact ⟨a, b, a1, b1, ab, by simp +decide⟩
theorem sl_eq {i j : Nat} : nI i * (12 : Int32) + nI j = nI (12 * i + j) := by rw [show (12 : Int32) = nI 12 from rfl, pk_mul, nI_add, Nat.mul_comm]
theorem sl_eq2 {i j : Nat} : (12 : Int32) * nI i + nI j = nI (12 * i + j) := by rw [show (12 : Int32) = nI 12 from rfl, pk_mul, nI_add]
theorem go_eq {n k d : Nat} {u v : S4} (h : RelC n k d u v) {f i : Nat} (hf : f < 2 * k) (hi : i < 2 * k) : xq_Net_goesOn u (nI f) (nI i) ∧ mq_M_goesInto v (nI f) (nI i) ∧ xp_Net_goesOn u (nI f) (nI i) = mp_M_goesInto v (nI f) (nI i) ∧ (mp_M_goesInto v (nI f) (nI i) = 0 ∨ mp_M_goesInto v (nI f) (nI i) = 1) := by
  obtain ⟨c1, c2, c3, c4⟩ := can_eq h hi
  obtain ⟨fa, fb, fa1, fb1, fab, p1, p2, p3, p4, p5, p6, p7, p8⟩ := ends_eq h hf
  obtain ⟨ia, ib, ia1, ib1, iab, q1, q2, q3, q4, q5, q6, q7, q8⟩ := ends_eq h hi
  obtain ⟨⟨n8, hn⟩, ⟨hz1, hz2⟩, ⟨k12, iu, iv, hs⟩, hh, hl, hc, ⟨t8, t9, tz, tr, td⟩, hd⟩ := h
  have hin8 : vp_in (nI fa) 8 := vp_in_nI (by omega) (by decide)
  have hsl : vp_in (nI (12 * (f / 2) + i / 2)) 144 := vp_in_nI (by omega) (by decide)
  have hb1 : (nI ib = nI fa) ↔ ib = fa := nI_eq (by omega) (by omega)
  have hst : (nI (f / 2) = nI (i / 2)) ↔ f / 2 = i / 2 := nI_eq (by omega) (by omega)
  have hfi : (nI f = nI i) ↔ f = i := nI_eq (by omega) (by omega)
  simp only [xq_Net_goesOn, mq_M_goesInto, xp_Net_goesOn, mp_M_goesInto, c1, c2, c3, p1, p2, p3, p4, p5, p6, p7, p8, q1, q2, q3, q4, q5, q6, q7, q8, xp_O_streetOf, sd_div (show f < 2 ^ 31 by omega), sd_div (show i < 2 ^ 31 by omega), xq_Nodes_isTurningPlace, xp_Nodes_isTurningPlace, xq_Turns_isBarred, xp_Turns_isBarred, xp_Turns_slotOf, sl_eq, sl_eq2, s4_ra_n (show fa < 2 ^ 31 by omega), s4_ra_n (show 12 * (f / 2) + i / 2 < 2 ^ 31 by omega), hz1, t9, hin8, hsl, hb1, hst, hfi, true_and, and_true]
  have hvz1 : vz (s4_a v 2 fa) := vz_01 (hz2 fa)
  have hvz2 : vz (s4_a v 11 (12 * (f / 2) + i / 2)) := vz_01 (tz _)
  have hsame : ib = fa → f ≠ i := fun e z => by
    subst z
    have := p1.symm.trans q1
    rw [nI_eq (by omega) (by omega)] at this
    omega
  refine ⟨fun _ _ => ⟨fun _ => ⟨hvz1, hvz1⟩, fun _ => hvz2⟩, fun _ _ => ⟨fun _ _ => trivial, fun _ => trivial⟩, ?_⟩
  rcases c4 with c4 | c4
  · rw [c4]
    simp
  · rw [c4]
    simp only [one_ne, if_false]
    by_cases e1 : ib = fa
    · simp only [e1, if_true, hsame e1, if_false]
      by_cases e2 : f / 2 = i / 2
      · simp only [e2, if_true]
        rcases hz2 fa with z | z <;> rw [z] <;> simp
      · simp only [e2, if_false]
        rcases tz (12 * (f / 2) + i / 2) with z | z <;> rw [z] <;> simp
    · simp [e1]
theorem op_joined {u v : S4} (h : Rel u v) (x1 : Int32) (x2 : Int32) : (xq_O_joined u x1 x2) ∧ (mq_M_joined v x1 x2) ∧ xp_O_joined u x1 x2 = mp_M_joined v x1 x2 ∧ Rel u v := by
  obtain ⟨n, k, d, w, hn, hz, hs, hh, hl, hc, ht, ⟨d20, ju, jv, ha, hj⟩, hw⟩ := id h
  have hC : RelC n k d u v := ⟨hn, hz, hs, hh, hl, hc, ht, d20, ju, jv, ha, hj⟩
  have k12 := hs.1
  simp only [xq_O_joined, mq_M_joined, xp_O_joined, mp_M_joined, xp_Needs_has, xq_Needs_sideAt, xp_Needs_sideAt, ju, jv]
  rcases ix_or x1 (n := d) (by omega) with (a0 | ⟨a1, a2⟩) | ⟨i, hi, rfl, a3, a4⟩
  · simp [a0, h]
  · simp [a1, a2, h]
  · rcases ix_or x2 (n := d) (by omega) with (b0 | ⟨b1, b2⟩) | ⟨j, hjd, rfl, b3, b4⟩
    · simp [a3, a4, b0, h]
    · have b5 : ¬ x2 < nI d := by rw [Int32.lt_iff_toInt_lt]; rw [Int32.le_iff_toInt_le] at b2; omega
      simp [a3, a4, b1, b2, b5, h]
    · have b5 : nI j < nI d := by rw [Int32.lt_iff_toInt_lt]; rw [Int32.le_iff_toInt_le] at b4; omega
      obtain ⟨x, hx1, hx2⟩ := hj i hi
      obtain ⟨y, hy1, hy2⟩ := hj j hjd
      have hi20 : vp_in (nI i) 20 := vp_in_nI (by omega) (by decide)
      have hj20 : vp_in (nI j) 20 := vp_in_nI (by omega) (by decide)
      obtain ⟨g1, g2, g3, g4⟩ := go_eq hC hx1 hy1
      simp only [a3, a4, b3, b4, b5, if_true, if_false, one_ne, not_false_eq_true, true_implies, s4_ra_n (show i < 2 ^ 31 by omega), s4_ra_n (show j < 2 ^ 31 by omega), ha, hx2, hy2, hi20, hj20, g1, g2, g3, true_and, and_true, implies_true]
      exact h
