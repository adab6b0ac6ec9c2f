/-! PURE: when a side is begun -/
def bgN (cl : Bool) (fi la T : Nat) : Option Nat := if 366 ≤ T / 86400 then none else if cl = true then none else if la < T % 86400 then none else some (if fi ≤ T % 86400 then T else T / 86400 * 86400 + fi)
theorem tp_ne : ∀ l, l < 64 → BitVec.twoPow 64 l ≠ 0#64 := by decide +kernel
theorem x_cl {u v : S4} (hc : rl_c u v) {j y : Nat} (hj : j < 12) (hy : y < 366) : xq_Streets_isClosed u (nI j) (nI y) ∧ (xp_Streets_isClosed u (nI j) (nI y) = 0 ↔ s4_a v 9 (366 * j + y) = 0) := by
  unfold xq_Streets_isClosed xp_Streets_isClosed
  simp only [cl_w u hj hy]
  have hb := cl_b u hy
  refine ⟨vp_in_nI (by omega) (by decide), ?_⟩
  rw [s4_rb_n (by omega)]
  have hz : (s4_b u 4 (6 * j + y / 64) &&& xp_Streets_bitOf u (nI y) = 0) ↔ (s4_b u 4 (6 * j + y / 64)).toBitVec.getLsbD (y % 64) = false := by
    rw [← Int64.toBitVec_inj, Int64.toBitVec_and, hb, BitVec.and_twoPow]
    have e0 : (0 : Int64).toBitVec = 0#64 := rfl
    rw [e0]
    have hne := tp_ne (y % 64) (Nat.mod_lt _ (by decide))
    cases hg : (s4_b u 4 (6 * j + y / 64)).toBitVec.getLsbD (y % 64) with
    | false => simp
    | true => simp [hne]
  simp only [lc_eq, hz]
  rcases hc j y hj hy with ⟨c1, c2⟩ | ⟨c1, c2⟩
  · simp [c1, c2]
  · simp [c1, c2]
theorem d86 {T : Nat} (h : T < 2 ^ 31) : nI T / (86400 : Int32) = nI (T / 86400) := pk_div h (by decide) (by decide)
theorem r86 {T : Nat} (h : T < 2 ^ 31) : nI T - nI (T / 86400) * (86400 : Int32) = nI (T % 86400) := by rw [← d86 h]; exact pk_rem h (by decide) (by decide)
theorem x_beg {n k d : Nat} {u v : S4} (h : RelC n k d u v) {j T fi la : Nat} (hj : j < k) (hT : T < 100000000) (hf : s4_a v 7 j = nI fi) (hl : s4_a v 8 j = nI la) (hfl : fi ≤ la) (hla : la < 86400) : xq_Streets_beginning u (nI j) (nI T) ∧ xp_Streets_beginning u (nI j) (nI T) = lvI (bgN (decide (¬ s4_a v 9 (366 * j + T / 86400) = 0)) fi la T) := by
  obtain ⟨hn, hz, ⟨k12, iu, iv, hs⟩, ⟨h6, h7, h0, hh⟩, hl', hc, ht, hd⟩ := h
  have hin : vp_in (nI j) 12 := vp_in_nI (by omega) (by decide)
  have e366 : (366 : Int32) ≤ nI (T / 86400) ↔ 366 ≤ T / 86400 := nI_leI (a := 366) (by decide) (by omega)
  have ela : nI (T % 86400) ≤ nI la ↔ T % 86400 ≤ la := nI_leI (by omega) (by omega)
  unfold xq_Streets_beginning xp_Streets_beginning bgN
  simp only [d86 (show T < 2 ^ 31 by omega), r86 (show T < 2 ^ 31 by omega), e366, s4_ra_n (show j < 2 ^ 31 by omega), h6, h7, hf, hl, ela, hin]
  by_cases c1 : 366 ≤ T / 86400
  · simp [c1, lvI]
  · obtain ⟨q1, q2⟩ := x_cl hc (j := j) (y := T / 86400) (by omega) (by omega)
    simp only [c1, if_false, not_false_eq_true, true_implies, q1, q2, true_and]
    by_cases c2 : s4_a v 9 (366 * j + T / 86400) = 0
    · simp only [c2, if_true, true_implies, not_true_eq_false, decide_false, Bool.false_eq_true, if_false]
      by_cases c3 : T % 86400 ≤ la
      · have c3' : ¬ la < T % 86400 := by omega
        simp only [c3, c3', if_true, if_false, implies_true, true_and]
        have hlt : (0 : Int32) < nI fi - nI (T % 86400) ↔ ¬ fi ≤ T % 86400 := by
          rw [Int32.lt_iff_toInt_lt, pk_sub_toInt (by omega) (by omega)]
          show (0 : Int) < _ ↔ _
          omega
        simp only [hlt]
        by_cases c4 : fi ≤ T % 86400
        · simp only [c4, not_true_eq_false, if_false, if_true]
          show nI T + 0 = nI T
          simp
        · simp only [c4, not_false_eq_true, if_true, if_false]
          show nI T + (nI fi - nI (T % 86400)) = nI (T / 86400 * 86400 + fi)
          rw [pk_sub (by omega), nI_add]
          congr 1
          omega
      · have c3' : la < T % 86400 := by omega
        simp only [c3, c3', if_true, if_false, implies_true, true_and]
        rfl
    · simp only [c2, if_false, false_implies, not_false_eq_true, decide_true, if_true]
      exact ⟨trivial, rfl⟩
theorem m_aux {n k d : Nat} {u v : S4} (h : RelC n k d u v) {j T fi la : Nat} (hj : j < k) (hT : T < 100000000) (hf : s4_a v 7 j = nI fi) (hl : s4_a v 8 j = nI la) (hfl : fi ≤ la) (hla : la < 86400) :
    (¬ (366 : Int32) ≤ nI T / 86400 → vp_in ((366 : Int32) * nI j + nI T / 86400) 4392 ∧ (s4_ra v 9 ((366 : Int32) * nI j + nI T / 86400) = 0 → vp_in (nI j) 12 ∧ (nI T - nI T / 86400 * 86400 ≤ s4_ra v 8 (nI j) → vp_in (nI j) 12 ∧ (¬ s4_ra v 7 (nI j) ≤ nI T - nI T / 86400 * 86400 → vp_in (nI j) 12)))) ∧
    (if (366 : Int32) ≤ nI T / 86400 then (-1 : Int32) else if s4_ra v 9 ((366 : Int32) * nI j + nI T / 86400) = 0 then (if nI T - nI T / 86400 * 86400 ≤ s4_ra v 8 (nI j) then (if s4_ra v 7 (nI j) ≤ nI T - nI T / 86400 * 86400 then nI T else nI T / 86400 * 86400 + s4_ra v 7 (nI j)) else -1) else -1) = lvI (bgN (decide (¬ s4_a v 9 (366 * j + T / 86400) = 0)) fi la T) := by
  obtain ⟨hn, hz, ⟨k12, iu, iv, hs⟩, ⟨h6, h7, h0, hh⟩, hl', hc, ht, hd⟩ := h
  have hin : vp_in (nI j) 12 := vp_in_nI (by omega) (by decide)
  have e366 : (366 : Int32) ≤ nI (T / 86400) ↔ 366 ≤ T / 86400 := nI_leI (a := 366) (by decide) (by omega)
  have ela : nI (T % 86400) ≤ nI la ↔ T % 86400 ≤ la := nI_leI (by omega) (by omega)
  have efi : nI fi ≤ nI (T % 86400) ↔ fi ≤ T % 86400 := nI_leI (by omega) (by omega)
  have ei : (366 : Int32) * nI j + nI (T / 86400) = nI (366 * j + T / 86400) := by rw [show (366 : Int32) = nI 366 from rfl, pk_mul, nI_add]
  have ed : nI (T / 86400) * (86400 : Int32) + nI fi = nI (T / 86400 * 86400 + fi) := by rw [show (86400 : Int32) = nI 86400 from rfl, pk_mul, nI_add]
  unfold bgN
  simp only [d86 (show T < 2 ^ 31 by omega), r86 (show T < 2 ^ 31 by omega), e366, ei, s4_ra_n (show j < 2 ^ 31 by omega), hf, hl, ela, efi, ed, hin, implies_true, and_true]
  by_cases c1 : 366 ≤ T / 86400
  · simp [c1, lvI]
  · have hic : vp_in (nI (366 * j + T / 86400)) 4392 := vp_in_nI (by omega) (by decide)
    simp only [c1, if_false, not_false_eq_true, true_implies, s4_ra_n (show 366 * j + T / 86400 < 2 ^ 31 by omega), hic, true_and]
    by_cases c2 : s4_a v 9 (366 * j + T / 86400) = 0
    · by_cases c3 : T % 86400 ≤ la
      · have c3' : ¬ la < T % 86400 := by omega
        by_cases c4 : fi ≤ T % 86400 <;> simp [c2, c3, c3', c4, lvI]
      · have c3' : la < T % 86400 := by omega
        simp [c2, c3, c3', lvI]
    · simp [c2, lvI]
def secN (v : S4) (b : Nat) : Nat := (s4_a v 5 (b / 2)).toNatClampNeg
theorem beg_eq {n k d : Nat} {u v : S4} (h : RelC n k d u v) {a b t : Nat} (ha : a < 2 * k) (hb : b < 2 * k) (ht : t < 90000000) :
    ∃ o : Option Nat, mq_M_begun3 v (nI a) (nI t) (nI b) ∧ mp_M_begun3 v (nI a) (nI t) (nI b) = lvI o ∧ (∀ x, o = some x → t ≤ x ∧ x < 31622400) ∧
      xq_Net_endBehind u (nI a) (nI b) (nI t) ∧ xp_Net_endBehind u (nI a) (nI b) (nI t) = (if gG v a b = true then lvI (o.map (fun x => x + secN v b)) else -1) ∧ 1 ≤ secN v b ∧ secN v b ≤ 10000 ∧ s4_ra v 5 (nI b / 2) = nI (secN v b) ∧ xp_Streets_secondsOf u (xp_O_streetOf u (nI b)) = nI (secN v b) ∧ xq_Streets_secondsOf u (xp_O_streetOf u (nI b)) := by
  obtain ⟨gx1, gx2⟩ := gX h ha hb
  have hC := h
  obtain ⟨hn, hz, ⟨k12, iu, iv, e2, e3, e4, e5, hs⟩, ⟨h6, h7, h0, hh⟩, hl', hc, ⟨t8, t9, tz, tr, td⟩, hd⟩ := h
  have hj : b / 2 < k := by omega
  obtain ⟨sa, sb, st, sq, a1, b1, ab, t1, t2, q1, f3, f4, f5, f6⟩ := hs (b / 2) hj
  obtain ⟨fi, la, fl, la8, f7, f8⟩ := hh (b / 2) hj
  have hsec : secN v b = st := by unfold secN; rw [f5]; exact nI_clamp (by omega)
  obtain ⟨tt, tt1, tt2⟩ := tr (12 * (a / 2) + b / 2)
  have hin : vp_in (nI (b / 2)) 12 := vp_in_nI (by omega) (by decide)
  have hsl : vp_in (nI (12 * (a / 2) + b / 2)) 144 := vp_in_nI (by omega) (by decide)
  have hdiag : a / 2 = b / 2 → tt = 0 := fun e => by
    have z := td (b / 2) (by omega)
    rw [← e] at z
    rw [show 12 * (a / 2) + b / 2 = 12 * (a / 2) + a / 2 by omega, z] at tt2
    have : nI 0 = nI tt := tt2
    rw [nI_eq (by decide) (by omega)] at this
    exact this.symm
  have hT : t + tt < 100000000 := by omega
  obtain ⟨x1, x2⟩ := x_beg hC hj hT f7 f8 fl la8
  obtain ⟨y1, y2⟩ := m_aux hC hj hT f7 f8 fl la8
  have hst : (nI (a / 2) = nI (b / 2)) ↔ a / 2 = b / 2 := nI_eq (by omega) (by omega)
  have hts : s4_ra u 8 (nI (12 * (a / 2) + b / 2)) = nI tt := by rw [s4_ra_n (by omega), t8, tt2]
  have hsb : ∀ x, bgN (decide (¬ s4_a v 9 (366 * (b / 2) + (t + tt) / 86400) = 0)) fi la (t + tt) = some x → t ≤ x ∧ x < 31622400 := by
    intro x hx
    unfold bgN at hx
    by_cases c1 : 366 ≤ (t + tt) / 86400
    · rw [if_pos c1] at hx; cases hx
    · rw [if_neg c1] at hx
      by_cases c2 : decide (¬ s4_a v 9 (366 * (b / 2) + (t + tt) / 86400) = 0) = true
      · rw [if_pos c2] at hx; cases hx
      · rw [if_neg c2] at hx
        by_cases c3 : la < (t + tt) % 86400
        · rw [if_pos c3] at hx; cases hx
        · rw [if_neg c3] at hx
          have := Option.some.inj hx
          by_cases c4 : fi ≤ (t + tt) % 86400
          · rw [if_pos c4] at this; omega
          · rw [if_neg c4] at this; omega
  refine ⟨bgN (decide (¬ s4_a v 9 (366 * (b / 2) + (t + tt) / 86400) = 0)) fi la (t + tt), ?_, ?_, hsb, ?_, ?_, by omega, by omega, ?_, ?_, ?_⟩
  · unfold mq_M_begun3
    simp only [sd_div (show a < 2 ^ 31 by omega), sd_div (show b < 2 ^ 31 by omega), hst, sl_eq2, hsl, true_and]
    by_cases hab : a / 2 = b / 2
    · have := hdiag hab
      subst this
      have e0 : nI t + 0 = nI t := by simp
      simp only [hab, e0, true_implies, not_true_eq_false, false_implies, and_true]
      exact y1
    · simp only [hab, not_false_eq_true, true_implies, false_implies, true_and, s4_ra_n (show 12 * (a / 2) + b / 2 < 2 ^ 31 by omega), tt2, nI_add]
      exact y1
  · unfold mp_M_begun3
    simp only [sd_div (show a < 2 ^ 31 by omega), sd_div (show b < 2 ^ 31 by omega), hst, sl_eq2]
    by_cases hab : a / 2 = b / 2
    · have := hdiag hab
      subst this
      have e0 : nI t + 0 = nI t := by simp
      simp only [hab, e0, if_true]
      exact y2
    · simp only [hab, if_false, s4_ra_n (show 12 * (a / 2) + b / 2 < 2 ^ 31 by omega), tt2, nI_add]
      exact y2
  · unfold xq_Net_endBehind
    simp only [gx1, gx2, xp_O_streetOf, sd_div (show a < 2 ^ 31 by omega), sd_div (show b < 2 ^ 31 by omega), xq_Turns_secondsOf, xp_Turns_secondsOf, xp_Turns_slotOf, sl_eq, hsl, hts, nI_add, x1, xq_Streets_secondsOf, hin, true_and, implies_true]
  · unfold xp_Net_endBehind
    simp only [gx2, xp_O_streetOf, sd_div (show a < 2 ^ 31 by omega), sd_div (show b < 2 ^ 31 by omega), xp_Turns_secondsOf, xp_Turns_slotOf, sl_eq, hts, nI_add, x2, xp_Streets_secondsOf, s4_ra_n (show b / 2 < 2 ^ 31 by omega), e4, f5, hsec]
    cases hg : gG v a b with
    | false => simp
    | true =>
      simp only [Bool.true_eq_false, if_false, if_true]
      cases ho : bgN (decide (¬ s4_a v 9 (366 * (b / 2) + (t + tt) / 86400) = 0)) fi la (t + tt) with
      | none => rfl
      | some x =>
        have hx := hsb x ho
        have hne : ¬ nI x = -1 := nI_ne_m1 (by omega)
        show (if nI x = -1 then (-1 : Int32) else nI x + nI st) = nI (x + st)
        rw [if_neg hne, nI_add]
  · rw [sd_div (by omega), s4_ra_n (by omega), f5, hsec]
  · unfold xp_Streets_secondsOf xp_O_streetOf
    rw [sd_div (by omega), s4_ra_n (by omega), e4, f5, hsec]
  · unfold xq_Streets_secondsOf xp_O_streetOf
    rw [sd_div (by omega)]
    exact hin
