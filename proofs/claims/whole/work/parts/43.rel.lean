/-! PURE: how a state of the class and one of the reference belong together. n nodes, k streets, d needs, h sides held. -/
def rl_n (n : Nat) (u v : S4) : Prop := n ≤ 8 ∧ s4_i u 0 = nI n ∧ s4_i v 0 = nI n ∧ (∀ j, s4_b u 1 j = (s4_a v 0 j).toInt64 ∧ s4_b u 2 j = (s4_a v 1 j).toInt64) ∧ ∀ j, (-100000 ≤ (s4_a v 0 j).toInt ∧ (s4_a v 0 j).toInt ≤ 100000) ∧ -100000 ≤ (s4_a v 1 j).toInt ∧ (s4_a v 1 j).toInt ≤ 100000
def rl_z (u v : S4) : Prop := s4_a u 1 = s4_a v 2 ∧ ∀ j, s4_a v 2 j = 0 ∨ s4_a v 2 j = 1
def rl_s (n k : Nat) (u v : S4) : Prop := k ≤ 12 ∧ s4_i u 1 = nI k ∧ s4_i v 1 = nI k ∧ s4_a u 2 = s4_a v 3 ∧ s4_a u 3 = s4_a v 4 ∧ s4_a u 4 = s4_a v 5 ∧ s4_a u 5 = s4_a v 6 ∧
  ∀ j, j < k → ∃ a b t q : Nat, a < n ∧ b < n ∧ a ≠ b ∧ 1 ≤ t ∧ t ≤ 10000 ∧ q ≤ 3 ∧ s4_a v 3 j = nI a ∧ s4_a v 4 j = nI b ∧ s4_a v 5 j = nI t ∧ s4_a v 6 j = nI q
def rl_h (k : Nat) (u v : S4) : Prop := s4_a u 6 = s4_a v 7 ∧ s4_a u 7 = s4_a v 8 ∧ (∀ j, k ≤ j → s4_a v 7 j = 0) ∧ ∀ j, j < k → ∃ a b : Nat, a ≤ b ∧ b < 86400 ∧ s4_a v 7 j = nI a ∧ s4_a v 8 j = nI b
def rl_l (u v : S4) : Prop := s4_b u 0 0 = s4_l v 0 ∧ s4_b u 0 1 = s4_l v 1 ∧ ∀ j, j < 12 → s4_b u 3 (2 * j) = s4_b v 0 j ∧ s4_b u 3 (2 * j + 1) = s4_b v 1 j
def rl_c (u v : S4) : Prop := ∀ j y, j < 12 → y < 366 → (s4_a v 9 (366 * j + y) = 0 ∧ (s4_b u 4 (6 * j + y / 64)).toBitVec.getLsbD (y % 64) = false) ∨ (s4_a v 9 (366 * j + y) = 1 ∧ (s4_b u 4 (6 * j + y / 64)).toBitVec.getLsbD (y % 64) = true)
def rl_t (u v : S4) : Prop := s4_a u 8 = s4_a v 10 ∧ s4_a u 9 = s4_a v 11 ∧ (∀ j, s4_a v 11 j = 0 ∨ s4_a v 11 j = 1) ∧ (∀ j, ∃ t : Nat, t ≤ 1000 ∧ s4_a v 10 j = nI t) ∧ ∀ j, j < 12 → s4_a v 10 (12 * j + j) = 0
def rl_d (k d : Nat) (u v : S4) : Prop := d ≤ 20 ∧ s4_i u 4 = nI d ∧ s4_i v 2 = nI d ∧ s4_a u 17 = s4_a v 12 ∧ ∀ j, j < d → ∃ x : Nat, x < 2 * k ∧ s4_a v 12 j = nI x
def rl_w (h : Nat) (u v : S4) : Prop := h ≤ 24 ∧ s4_i u 3 = nI h ∧ (s4_i v 3 = nI h ∨ (h = 0 ∧ s4_i v 3 = -1)) ∧ ∀ j, j < h → s4_a u 15 j = s4_a v 16 j ∧ s4_a u 16 j = s4_a v 17 j
def RelN (n k d h : Nat) (u v : S4) : Prop := rl_n n u v ∧ rl_z u v ∧ rl_s n k u v ∧ rl_h k u v ∧ rl_l u v ∧ rl_c u v ∧ rl_t u v ∧ rl_d k d u v ∧ rl_w h u v
def Rel (u v : S4) : Prop := ∃ n k d h : Nat, RelN n k d h u v
def rl_u0 : S4 := (fun _ => 0, fun _ => 0, fun _ _ => 0, fun _ _ => 0)
def rl_v0 : S4 := (fun k => if k = 3 then -1 else 0, fun _ => 0, fun _ _ => 0, fun _ _ => 0)
theorem rel_0 : Rel rl_u0 rl_v0 := by
  refine ⟨0, 0, 0, 0, ⟨by decide, rfl, rfl, fun j => ⟨rfl, rfl⟩, fun j => (by show (-100000 ≤ (0 : Int32).toInt ∧ (0 : Int32).toInt ≤ 100000) ∧ -100000 ≤ (0 : Int32).toInt ∧ (0 : Int32).toInt ≤ 100000; decide)⟩, ⟨rfl, fun j => Or.inl rfl⟩, ⟨by decide, rfl, rfl, rfl, rfl, rfl, rfl, fun j hj => absurd hj (Nat.not_lt_zero _)⟩, ⟨rfl, rfl, fun j _ => rfl, fun j hj => absurd hj (Nat.not_lt_zero _)⟩, ⟨rfl, rfl, fun j _ => ⟨rfl, rfl⟩⟩, fun j y _ _ => Or.inl ⟨rfl, ?_⟩, ⟨rfl, rfl, fun j => Or.inl rfl, fun j => ⟨0, by decide, rfl⟩, fun j _ => rfl⟩, ⟨by decide, rfl, rfl, rfl, fun j hj => absurd hj (Nat.not_lt_zero _)⟩, ⟨by decide, rfl, Or.inr ⟨rfl, rfl⟩, fun j hj => absurd hj (Nat.not_lt_zero _)⟩⟩
  show ((0 : Int64)).toBitVec.getLsbD (y % 64) = false
  simp
