/-! PURE: the simple calls -/
theorem in_toInt {x : Int64} {u : S4} {a b : Int64} (h : ¬ mp_M_isIn u x a b = 0) : a.toInt ≤ x.toInt ∧ x.toInt ≤ b.toInt := by
  unfold mp_M_isIn at h
  by_cases h1 : lg_cmp x a < 0
  · rw [if_pos h1] at h; exact absurd rfl h
  · rw [if_neg h1] at h
    by_cases h2 : 0 < lg_cmp x b
    · rw [if_pos h2] at h; exact absurd rfl h
    · rw [lc_lt, Int64.lt_iff_toInt_lt] at h1
      rw [lc_gt, Int64.lt_iff_toInt_lt] at h2
      omega
theorem isIn_iff {u : S4} {x a b : Int64} : mp_M_isIn u x a b = 0 ↔ ¬ (a.toInt ≤ x.toInt ∧ x.toInt ≤ b.toInt) := by
  unfold mp_M_isIn
  by_cases h1 : lg_cmp x a < 0
  · rw [if_pos h1]
    rw [lc_lt, Int64.lt_iff_toInt_lt] at h1
    exact ⟨fun _ => by omega, fun _ => rfl⟩
  · rw [if_neg h1]
    rw [lc_lt, Int64.lt_iff_toInt_lt] at h1
    by_cases h2 : 0 < lg_cmp x b
    · rw [if_pos h2]
      rw [lc_gt, Int64.lt_iff_toInt_lt] at h2
      exact ⟨fun _ => by omega, fun _ => rfl⟩
    · rw [if_neg h2]
      rw [lc_gt, Int64.lt_iff_toInt_lt] at h2
      exact ⟨fun h => absurd h (by decide), fun h => absurd (by omega) h⟩
theorem bm32 {x : Int} (h1 : -2147483648 ≤ x) (h2 : x < 2147483648) : x.bmod 4294967296 = x := Int.bmod_eq_of_le (by omega) (by omega)
theorem bm64 {x : Int} (h1 : -9223372036854775808 ≤ x) (h2 : x < 9223372036854775808) : x.bmod 18446744073709551616 = x := Int.bmod_eq_of_le (by omega) (by omega)
theorem l2i_small {x : Int64} (h1 : -100000 ≤ x.toInt) (h2 : x.toInt ≤ 100000) : x.toInt32.toInt = x.toInt := by
  rw [Int64.toInt_toInt32]; exact bm32 (by omega) (by omega)
theorem l2i_back {x : Int64} (h1 : -100000 ≤ x.toInt) (h2 : x.toInt ≤ 100000) : x.toInt32.toInt64 = x := Int64.toInt_inj.mp (by rw [Int32.toInt_toInt64]; exact l2i_small h1 h2)
theorem nI_of_r {x : Int32} {m : Nat} (h0 : 0 ≤ x.toInt) (h1 : x.toInt ≤ m) : ∃ j : Nat, j ≤ m ∧ x = nI j ∧ (j : Int) = x.toInt := by
  have h : ¬ x < 0 := by rw [Int32.lt_iff_toInt_lt]; show ¬ x.toInt < 0; omega
  obtain ⟨j, hj, rfl⟩ := nI_of h
  rw [nI_toInt hj] at h1 ⊢
  exact ⟨j, by omega, rfl, rfl⟩
theorem rl_s_mono {n n' k : Nat} {u v : S4} (hn : n ≤ n') (h : rl_s n k u v) : rl_s n' k u v := by
  obtain ⟨a1, a2, a3, a4, a5, a6, a7, a8⟩ := h
  refine ⟨a1, a2, a3, a4, a5, a6, a7, fun j hj => ?_⟩
  obtain ⟨a, b, t, q, b1, b2, b3⟩ := a8 j hj
  exact ⟨a, b, t, q, by omega, by omega, b3⟩
theorem op_node {u v : S4} (h : Rel u v) (x1 : Int64) (x3 : Int64) : (xq_O_node u x1 x3) ∧ (mq_M_node v x1 x3) ∧ (xp_O_node u x1 x3).1 = (mp_M_node v x1 x3).1 ∧ Rel (xp_O_node u x1 x3).2 (mp_M_node v x1 x3).2 := by
  obtain ⟨n, k, d, w, ⟨n8, iu, iv, hxy, hr⟩, hz, hs, hh, hl, hc, ht, hd, hw⟩ := id h
  have hp : ∀ x, xp_O_isPlace u x = mp_M_isIn v x (-100000) 100000 := fun x => rfl
  have hlt : (s4_i u 0 < 8) ↔ n < 8 := by rw [iu]; exact nI_ltI (by omega) (by decide)
  have heq : (s4_i v 0 = 8) ↔ n = 8 := by rw [iv]; exact nI_eq (by omega) (by decide)
  unfold xq_O_node mq_M_node xp_O_node mp_M_node
  simp only [hp, xq_Nodes_add, xp_Nodes_add, hlt, heq]
  by_cases h1 : mp_M_isIn v x1 (-100000) 100000 = 0
  · by_cases h8 : n = 8 <;> simp [h1, h8, h]
  · by_cases h3 : mp_M_isIn v x3 (-100000) 100000 = 0
    · by_cases h8 : n = 8 <;> simp [h1, h3, h8, h]
    · by_cases h8 : n = 8
      · simp [h1, h3, h8, h]
      · have h8' : n < 8 := by omega
        have r1 : -100000 ≤ x1.toInt ∧ x1.toInt ≤ 100000 := in_toInt h1
        have r3 : -100000 ≤ x3.toInt ∧ x3.toInt ≤ 100000 := in_toInt h3
        have hin : vp_in (nI n) 8 := vp_in_nI h8' (by decide)
        simp only [h1, h3, h8, h8', if_true, if_false, not_false_eq_true, true_implies]
        refine ⟨⟨by rw [iu]; exact hin, ?_⟩, ⟨by rw [iv]; exact hin, ?_⟩, ?_, n + 1, k, d, w, ⟨by omega, ?_, ?_, fun j => ?_, fun j => ?_⟩, hz, rl_s_mono (n := n) (by omega) hs, hh, hl, hc, ht, hd, hw⟩
        · show vp_in (s4_i u 0) 8; rw [iu]; exact hin
        · show vp_in (s4_i v 0) 8; rw [iv]; exact hin
        · show s4_i u 0 + 1 - 1 = s4_i v 0 + 1 - 1; rw [iu, iv]
        · show s4_i u 0 + 1 = nI (n + 1); rw [iu]; exact nI_1 n
        · show s4_i v 0 + 1 = nI (n + 1); rw [iv]; exact nI_1 n
        · show vp_updL (s4_b u 1) (s4_i u 0).toNatClampNeg x1 j = (upd (s4_a v 0) (s4_i v 0).toNatClampNeg x1.toInt32 j).toInt64 ∧ vp_updL (s4_b u 2) (s4_i u 0).toNatClampNeg x3 j = (upd (s4_a v 1) (s4_i v 0).toNatClampNeg x3.toInt32 j).toInt64
          rw [iu, iv, nI_clamp (by omega)]
          unfold vp_updL upd
          by_cases hj : j = n
          · rw [if_pos hj, if_pos hj, if_pos hj, if_pos hj]
            exact ⟨(l2i_back r1.1 r1.2).symm, (l2i_back r3.1 r3.2).symm⟩
          · rw [if_neg hj, if_neg hj, if_neg hj, if_neg hj]
            exact hxy j
        · show (-100000 ≤ (upd (s4_a v 0) (s4_i v 0).toNatClampNeg x1.toInt32 j).toInt ∧ (upd (s4_a v 0) (s4_i v 0).toNatClampNeg x1.toInt32 j).toInt ≤ 100000) ∧ -100000 ≤ (upd (s4_a v 1) (s4_i v 0).toNatClampNeg x3.toInt32 j).toInt ∧ (upd (s4_a v 1) (s4_i v 0).toNatClampNeg x3.toInt32 j).toInt ≤ 100000
          unfold upd
          by_cases hj : j = (s4_i v 0).toNatClampNeg
          · rw [if_pos hj, if_pos hj, l2i_small r1.1 r1.2, l2i_small r3.1 r3.2]
            exact ⟨r1, r3⟩
          · rw [if_neg hj, if_neg hj]
            exact hr j
theorem nh_eq {u v : S4} {n : Nat} (iu : s4_i u 0 = nI n) (iv : s4_i v 0 = nI n) (x : Int32) : xp_Nodes_has u x = mp_M_isNode v x := by
  unfold xp_Nodes_has mp_M_isNode
  rw [iu, iv]
theorem sh_eq {u v : S4} {k : Nat} (iu : s4_i u 1 = nI k) (iv : s4_i v 1 = nI k) (x : Int32) : xp_Streets_has u x = mp_M_isStreet v x := by
  unfold xp_Streets_has mp_M_isStreet
  rw [iu, iv]
theorem isNode_or {v : S4} {n : Nat} (iv : s4_i v 0 = nI n) (hn : n < 2 ^ 31) (x : Int32) : mp_M_isNode v x = 0 ∨ (mp_M_isNode v x = 1 ∧ ∃ j, j < n ∧ x = nI j) := by
  unfold mp_M_isNode
  rw [iv]
  rcases ix_or x hn with (h | ⟨h1, h2⟩) | ⟨j, h1, h2, h3, h4⟩
  · left; simp [h]
  · left; simp [h1, h2]
  · right; exact ⟨by simp [h3, h4], j, h1, h2⟩
theorem isStreet_or {v : S4} {k : Nat} (iv : s4_i v 1 = nI k) (hn : k < 2 ^ 31) (x : Int32) : mp_M_isStreet v x = 0 ∨ (mp_M_isStreet v x = 1 ∧ ∃ j, j < k ∧ x = nI j) := by
  unfold mp_M_isStreet
  rw [iv]
  rcases ix_or x hn with (h | ⟨h1, h2⟩) | ⟨j, h1, h2, h3, h4⟩
  · left; simp [h]
  · left; simp [h1, h2]
  · right; exact ⟨by simp [h3, h4], j, h1, h2⟩
