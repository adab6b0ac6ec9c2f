/-! PURE: reading what was written; small numbers -/
theorem s4_ra_n {u : S4} {k j : Nat} (h : j < 2 ^ 31) : s4_ra u k (nI j) = s4_a u k j := by unfold s4_ra; rw [nI_clamp h]
theorem s4_rb_n {u : S4} {k j : Nat} (h : j < 2 ^ 31) : s4_rb u k (nI j) = s4_b u k j := by unfold s4_rb; rw [nI_clamp h]
theorem s4_wa_n {u : S4} {k j : Nat} {v : Int32} (h : j < 2 ^ 31) : s4_wa u k (nI j) v = s4_sa u k (upd (s4_a u k) j v) := by unfold s4_wa; rw [nI_clamp h]
theorem s4_wb_n {u : S4} {k j : Nat} {v : Int64} (h : j < 2 ^ 31) : s4_wb u k (nI j) v = s4_sb u k (vp_updL (s4_b u k) j v) := by unfold s4_wb; rw [nI_clamp h]
theorem s4_wz_n {u : S4} {k j : Nat} {v : Int32} (h : j < 2 ^ 31) (hv : v = 0 ∨ v = 1) : s4_wz u k (nI j) v = s4_sa u k (upd (s4_a u k) j v) := by
  unfold s4_wz; rw [nI_clamp h]
  rcases hv with rfl | rfl <;> rfl
theorem vz_01 {x : Int32} (h : x = 0 ∨ x = 1) : vz x := by rcases h with rfl | rfl <;> rfl
theorem lc_lt {x y : Int64} : lg_cmp x y < 0 ↔ x < y := by
  unfold lg_cmp
  by_cases h1 : y < x
  · rw [if_pos h1]
    constructor
    · intro h; exact absurd h (by decide)
    · intro h; exact absurd h (by rw [Int64.lt_iff_toInt_lt] at *; omega)
  · rw [if_neg h1]
    by_cases h2 : x = y
    · rw [if_pos h2]
      constructor
      · intro h; exact absurd h (by decide)
      · intro h; subst h2; exact absurd h h1
    · rw [if_neg h2]
      constructor
      · intro _
        rw [Int64.lt_iff_toInt_lt] at *
        have : x.toInt ≠ y.toInt := fun q => h2 (Int64.toInt_inj.mp q)
        omega
      · intro _; decide
theorem lc_gt {x y : Int64} : 0 < lg_cmp x y ↔ y < x := by
  unfold lg_cmp
  by_cases h1 : y < x
  · rw [if_pos h1]; exact ⟨fun _ => h1, fun _ => by decide⟩
  · rw [if_neg h1]
    by_cases h2 : x = y
    · rw [if_pos h2]; exact ⟨fun h => absurd h (by decide), fun h => absurd h h1⟩
    · rw [if_neg h2]; exact ⟨fun h => absurd h (by decide), fun h => absurd h h1⟩
theorem lc_eq {x y : Int64} : lg_cmp x y = 0 ↔ x = y := by
  unfold lg_cmp
  by_cases h1 : y < x
  · rw [if_pos h1]
    constructor
    · intro h; exact absurd h (by decide)
    · intro h; subst h; rw [Int64.lt_iff_toInt_lt] at h1; omega
  · rw [if_neg h1]
    by_cases h2 : x = y
    · rw [if_pos h2]; exact ⟨fun _ => h2, fun _ => rfl⟩
    · rw [if_neg h2]; exact ⟨fun h => absurd h (by decide), fun h => absurd h h2⟩
theorem lc_le {x y : Int64} : lg_cmp x y ≤ 0 ↔ x ≤ y := by
  have h := @lc_gt x y
  rw [Int32.le_iff_toInt_le, Int64.le_iff_toInt_le]
  rw [Int32.lt_iff_toInt_lt, Int64.lt_iff_toInt_lt] at h
  have : (0 : Int32).toInt = 0 := rfl
  omega
/-- a number told, among n: refused, or such -/
theorem ix_or (x : Int32) {n : Nat} (hn : n < 2 ^ 31) : (x < 0 ∨ (¬ x < 0 ∧ nI n ≤ x)) ∨ ∃ j : Nat, j < n ∧ x = nI j ∧ ¬ x < 0 ∧ ¬ nI n ≤ x := by
  by_cases h0 : x < 0
  · exact Or.inl (Or.inl h0)
  · by_cases h1 : nI n ≤ x
    · exact Or.inl (Or.inr ⟨h0, h1⟩)
    · obtain ⟨j, hj, rfl⟩ := nI_of h0
      refine Or.inr ⟨j, ?_, rfl, h0, h1⟩
      rw [nI_leI hn hj] at h1
      omega
theorem sd_div {f : Nat} (h : f < 2 ^ 31) : nI f / (2 : Int32) = nI (f / 2) := pk_div h (by decide) (by decide)
theorem sd_rem {f : Nat} (h : f < 2 ^ 31) : nI f - nI f / (2 : Int32) * (2 : Int32) = nI (f % 2) := pk_rem h (by decide) (by decide)
