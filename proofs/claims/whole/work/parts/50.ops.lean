theorem op_node {u v : S4} (h : Rel u v) (x1 : Int64) (x3 : Int64) : (xq_O_node u x1 x3) ∧ (mq_M_node v x1 x3) ∧ (xp_O_node u x1 x3).1 = (mp_M_node v x1 x3).1 ∧ Rel (xp_O_node u x1 x3).2 (mp_M_node v x1 x3).2 := by
  sorry
theorem op_street {u v : S4} (h : Rel u v) (x1 : Int32) (x2 : Int32) (x3 : Int32) (x4 : Int32) : (xq_O_street u x1 x2 x3 x4) ∧ (mq_M_street v x1 x2 x3 x4) ∧ (xp_O_street u x1 x2 x3 x4).1 = (mp_M_street v x1 x2 x3 x4).1 ∧ Rel (xp_O_street u x1 x2 x3 x4).2 (mp_M_street v x1 x2 x3 x4).2 := by
  sorry
theorem op_turn {u v : S4} (h : Rel u v) (x1 : Int32) (x2 : Int32) (x3 : Int32) (x4 : Int32) (hzx4 : x4 = 0 ∨ x4 = 1) : (xq_O_turn u x1 x2 x3 x4) ∧ (mq_M_turn v x1 x2 x3 x4) ∧ (xp_O_turn u x1 x2 x3 x4).1 = (mp_M_turn v x1 x2 x3 x4).1 ∧ Rel (xp_O_turn u x1 x2 x3 x4).2 (mp_M_turn v x1 x2 x3 x4).2 := by
  sorry
theorem op_hours {u v : S4} (h : Rel u v) (x1 : Int32) (x2 : Int32) (x3 : Int32) : (xq_O_hours u x1 x2 x3) ∧ (mq_M_hours v x1 x2 x3) ∧ (xp_O_hours u x1 x2 x3).1 = (mp_M_hours v x1 x2 x3).1 ∧ Rel (xp_O_hours u x1 x2 x3).2 (mp_M_hours v x1 x2 x3).2 := by
  sorry
theorem op_limit {u v : S4} (h : Rel u v) (x1 : Int32) (x2 : Int32) (x3 : Int64) : (xq_O_limit u x1 x2 x3) ∧ (mq_M_limit v x1 x2 x3) ∧ (xp_O_limit u x1 x2 x3).1 = (mp_M_limit v x1 x2 x3).1 ∧ Rel (xp_O_limit u x1 x2 x3).2 (mp_M_limit v x1 x2 x3).2 := by
  sorry
theorem op_deadEnd {u v : S4} (h : Rel u v) (x1 : Int32) (x2 : Int32) (hzx2 : x2 = 0 ∨ x2 = 1) : (xq_O_deadEnd u x1 x2) ∧ (mq_M_deadEnd v x1 x2) ∧ (xp_O_deadEnd u x1 x2).1 = (mp_M_deadEnd v x1 x2).1 ∧ Rel (xp_O_deadEnd u x1 x2).2 (mp_M_deadEnd v x1 x2).2 := by
  sorry
theorem op_close {u v : S4} (h : Rel u v) (x1 : Int32) (x2 : Int32) (x3 : Int32) (hzx3 : x3 = 0 ∨ x3 = 1) : (xq_O_close u x1 x2 x3) ∧ (mq_M_close v x1 x2 x3) ∧ (xp_O_close u x1 x2 x3).1 = (mp_M_close v x1 x2 x3).1 ∧ Rel (xp_O_close u x1 x2 x3).2 (mp_M_close v x1 x2 x3).2 := by
  sorry
theorem op_least {u v : S4} (h : Rel u v) (x1 : Int32) (x2 : Int32) (x3 : Int32) (x4 : Int32) (x5 : Int32) : (xq_O_least u x1 x2 x3 x4 x5) ∧ (mq_M_least v x1 x2 x3 x4 x5) ∧ (xp_O_least u x1 x2 x3 x4 x5).1 = (mp_M_least v x1 x2 x3 x4 x5).1 ∧ Rel (xp_O_least u x1 x2 x3 x4 x5).2 (mp_M_least v x1 x2 x3 x4 x5).2 := by
  sorry
theorem op_way {u v : S4} (h : Rel u v) (x1 : Int32) : (xq_O_way u x1) ∧ (mq_M_way v x1) ∧ xp_O_way u x1 = mp_M_way v x1 ∧ Rel u v := by
  sorry
theorem op_begun {u v : S4} (h : Rel u v) (x1 : Int32) : (xq_O_begun u x1) ∧ (mq_M_begun1 v x1) ∧ xp_O_begun u x1 = mp_M_begun1 v x1 ∧ Rel u v := by
  sorry
theorem op_plain {u v : S4} (h : Rel u v) (x1 : Int32) (x2 : Int32) : (xq_O_plain u x1 x2) ∧ (mq_M_plain v x1 x2) ∧ (xp_O_plain u x1 x2).1 = (mp_M_plain v x1 x2).1 ∧ Rel (xp_O_plain u x1 x2).2 (mp_M_plain v x1 x2).2 := by
  sorry
theorem op_need {u v : S4} (h : Rel u v) (x1 : Int32) (x2 : Int32) : (xq_O_need u x1 x2) ∧ (mq_M_need v x1 x2) ∧ (xp_O_need u x1 x2).1 = (mp_M_need v x1 x2).1 ∧ Rel (xp_O_need u x1 x2).2 (mp_M_need v x1 x2).2 := by
  sorry
theorem op_joined {u v : S4} (h : Rel u v) (x1 : Int32) (x2 : Int32) : (xq_O_joined u x1 x2) ∧ (mq_M_joined v x1 x2) ∧ xp_O_joined u x1 x2 = mp_M_joined v x1 x2 ∧ Rel u v := by
  sorry
theorem op_pieces {u v : S4} (h : Rel u v) : (xq_O_pieces u) ∧ (mq_M_pieces v) ∧ (xp_O_pieces u).1 = (mp_M_pieces v).1 ∧ Rel (xp_O_pieces u).2 (mp_M_pieces v).2 := by
  sorry
theorem op_span {u v : S4} (h : Rel u v) (x1 : Int32) : (xq_O_span u x1) ∧ (mq_M_span v x1) ∧ xp_O_span u x1 = mp_M_span v x1 ∧ Rel u v := by
  sorry
