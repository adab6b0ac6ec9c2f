/-! PURE: least, both sides together -/
section LE
variable {n k d : Nat} {u v : S4}
theorem x_dj_I (h0 : RelC n k d u v) {st t0 : Nat} (hst : st < 2 * k) (ht : t0 < 63244800) {X : dj_X} (hX : X = dj_it (2 * k) 63244800 (EV v k) (2 * k) (dj_x0 63244800 st t0)) : dj_I (2 * k) 63244800 st t0 X ∧ dj_st (2 * k) 63244800 (EV v k) X = none ∧ dj_P (2 * k) 63244800 (EV v k) st X := by
  have hE := EV_good h0
  have hI0 : dj_I (2 * k) 63244800 st t0 (dj_x0 63244800 st t0) := dj_I0 hst ht
  rw [hX]
  exact ⟨dj_it_I hE _ hI0, dj_end hE _ hI0 (by show 2 * k ≤ 0 + 2 * k; omega), dj_P_it hE _ hI0 dj_P0⟩
theorem x_exp (h0 : RelN n k d 0 u v) {st t0 : Nat} (hst : st < 2 * k) (ht : t0 < 63244800) {X : dj_X} (hX : X = dj_it (2 * k) 63244800 (EV v k) (2 * k) (dj_x0 63244800 st t0)) : ∃ u' : S4, RelN n k d 0 u' v ∧ XA u' X ∧ xp_Search_explore u (nI st) (nI t0) = u' ∧ xq_Search_explore u (nI st) (nI t0) := by
  have k12 := h0.2.2.1.1
  have hI0 : dj_I (2 * k) 63244800 st t0 (dj_x0 63244800 st t0) := dj_I0 hst ht
  obtain ⟨u1, a1, a2, a3, a4, a5⟩ := fx_forget (v := v) 64 0 u (by omega) (by omega) h0 (fun q hq => absurd hq (Nat.not_lt_zero _))
  have hA0 : XA (s4_wa u1 10 (nI st) (nI t0)) (dj_x0 63244800 st t0) := by
    rw [s4_wa_n (show st < 2 ^ 31 by omega)]
    refine ⟨fun q hq => ?_, fun q hq => ?_, fun i hi => absurd hi (Nat.not_lt_zero _), a3, fun q hq => (a2 q hq).2.2⟩
    · show upd (s4_a u1 10) st (nI t0) q = nI (va_up (fun _ => 63244800) st t0 q)
      unfold upd va_up
      by_cases hq' : q = st
      · rw [if_pos hq', if_pos hq']
      · rw [if_neg hq', if_neg hq']; exact (a2 q hq).1
    · show s4_a u1 11 q = if false = true then 1 else 0
      rw [(a2 q hq).2.1]
      rfl
  obtain ⟨u2, b1, b2, b3, b4⟩ := fx_explore (n := n) (d := d) (w := 0) (v := v) (k := k) (st := st) (t0 := t0) 64 (2 * k) (s4_wa u1 10 (nI st) (nI t0)) (dj_x0 63244800 st t0) (Nat.zero_le _) (by show 0 + 2 * k = 2 * k; omega) (by omega) hI0 a1 hA0
  have hsd : xp_Streets_sides (s4_wa u1 10 (nI st) (nI t0)) = nI (2 * k) := sides_n a1.2.2.1.2.1
  have hf : xp_Search_forget u = u1 := a4
  have hfq : xq_Search_forget u := a5
  have hin : vp_in (nI st) 24 := vp_in_nI (by omega) (by decide)
  refine ⟨u2, b1, by rw [hX]; exact b2, ?_, ?_⟩
  · unfold xp_Search_explore
    simp only [hf, hsd]
    exact b3
  · unfold xq_Search_explore
    simp only [hf, hfq, hsd, hin, true_and]
    exact b4
theorem x_way {st t0 : Nat} {X : dj_X} (hI : dj_I (2 * k) 63244800 st t0 X) (hn : dj_st (2 * k) 63244800 (EV v k) X = none) (hP : dj_P (2 * k) 63244800 (EV v k) st X) {g : Nat} (hg : g < 2 * k) (hgz : X.1 g < 63244800) (hR : RelN n k d 0 u v) (hA : XA u X) :
    ∃ (u' : S4) (h : Nat) (c : Nat → Nat), h < 24 ∧ c 0 = st ∧ c h = g ∧ wC v k X.1 g c h ∧ RelC n k d u' v ∧ s4_a u' 10 g = nI (X.1 g) ∧ wA u' 3 15 16 v X.1 c h ∧ xp_Search_trace (xp_Search_markLeading u (nI g)) (nI st) (nI g) = u' ∧ xq_Search_markLeading u (nI g) ∧ xq_Search_trace (xp_Search_markLeading u (nI g)) (nI st) (nI g) := by
  have k12 := hR.2.2.1.1
  have hE := EV_good (RelN_C hR)
  have hcN := dj_cnt hI
  have hin : vp_in (nI g) 24 := vp_in_nI (by omega) (by decide)
  have hL0 : LA (2 * k) u 12 (fun _ => False) := fun q hq => Or.inr ⟨hA.2.2.2.2 q (by omega), fun z => z⟩
  have hL1 : LA (2 * k) (s4_wz u 12 (nI g) 1) 12 (ld_i (2 * k) (EV v k) X.1 g X.2.2.1 X.2.2.2 X.2.2.2) := LA_iff (LA_set hL0 (show g < 2 ^ 31 by omega)) (fun q => ⟨fun z => by
    rcases z with z | z
    · exact Or.inl z
    · exact z.elim, fun z => by
    rcases z with z | ⟨j, j1, j2, -⟩
    · exact Or.inl z
    · omega⟩)
  obtain ⟨u1, m1, m2, m3, m4, m5⟩ := fx_mark (n := n) (d := d) (w := 0) hE hI hn (g := g) 64 X.2.2.2 (s4_wz u 12 (nI g) 1) (Nat.le_refl _) (by omega) hR hA.1 hA.2.2.1 hL1
  have hi2 : s4_i (s4_wz u 12 (nI g) 1) 2 = nI X.2.2.2 := hA.2.2.2.1
  have hmk : xp_Search_markLeading u (nI g) = u1 := by
    unfold xp_Search_markLeading
    simp only [hi2]
    exact m4
  have hmq : xq_Search_markLeading u (nI g) := by
    unfold xq_Search_markLeading
    simp only [hi2, hin, true_and]
    exact m5
  have hL2 : LA (2 * k) u1 12 (ld (2 * k) (EV v k) X.1 g) := fun q hq => by
    rw [← ld_all hE hI hn hg hgz hq]
    exact m3 q hq
  have hst := hI.2.2.2.2.2.2.2
  have hsz : X.1 st < 63244800 := by rw [hst.2.2.1]; exact hst.2.1
  obtain ⟨p, p1, p2⟩ := hI.2.2.2.2.1 st (dj_all hn hst.1 hsz)
  have hls : ld (2 * k) (EV v k) X.1 g st := ld_st hE hI hP (X.1 g + 1) g (Nat.lt_succ_self _) hg hgz ld_g
  obtain ⟨u2, h, c, r1, r2, r3, r4, r5, r6, r7, r8, r9⟩ := fx_trace hE hI hn hg hgz 64 0 u1 (fun _ => st) p (by omega) (Nat.zero_le _) p1 p2 hls (fun j hj => absurd hj (Nat.not_lt_zero _)) (RelN_C m1) m2 hL2 ⟨m1.2.2.2.2.2.2.2.2.2.1, fun j hj => absurd hj (Nat.not_lt_zero _)⟩
  exact ⟨u2, h, c, r1, r2, r3, r4, r5, r6 g (by omega), r7, by rw [hmk]; exact r8, hmq, by rw [hmk]; exact r9⟩
theorem m_set (h0 : RelN n k d 0 u v) {st t0 : Nat} (hst : st < 2 * k) (ht : t0 < 63244800) {X : dj_X} (hX : X = dj_it (2 * k) 63244800 (EV v k) (2 * k) (dj_x0 63244800 st t0)) : ∃ v' : S4, RelN n k d 0 u v' ∧ MA v v' st X.1 ∧ mp_M_settle v (nI st) (nI t0) = v' ∧ mq_M_settle v (nI st) (nI t0) := by
  obtain ⟨v2, a1, a2, a3, a4⟩ := fm_init h0 hst ht 64 0 v (by omega) (by omega) h0 rfl (fun q hq => absurd hq (Nat.not_lt_zero _))
  exact ⟨v2, a1, by rw [hX]; exact a2, a3, a4⟩
theorem m_way (h0 : RelN n k d 0 u v) (hv3 : s4_i v 3 = 0) {st t0 : Nat} {X : dj_X} (hI : dj_I (2 * k) 63244800 st t0 X) (hn : dj_st (2 * k) 63244800 (EV v k) X = none) (hP : dj_P (2 * k) 63244800 (EV v k) st X) {g : Nat} (hg : g < 2 * k) (hgz : X.1 g < 63244800) {v' : S4} (hR : RelN n k d 0 u v') (hA : MA v v' st X.1) {y5 : Int32} :
    ∃ (v2 : S4) (h : Nat) (c : Nat → Nat), h < 24 ∧ c 0 = st ∧ c h = g ∧ wC v k X.1 g c h ∧ RelC n k d u v2 ∧ wA v2 3 16 17 v X.1 c h ∧ mL_M_least_91 64 v' y5 (nI st) (nI g) 0 = (nI (X.1 g) - y5, v2) ∧ mLq_M_least_91 64 v' y5 (nI st) (nI g) 0 := by
  have hE := EV_good (RelN_C h0)
  obtain ⟨v1, a1, a2, a3, a4, a5⟩ := fm_leads h0 hI hn hg hgz (y5 := y5) (y6 := nI st) 64 0 v' (by omega) (by omega) hR hA (fun q hq => absurd hq (Nat.not_lt_zero _))
  have hst := hI.2.2.2.2.2.2.2
  have hsz : X.1 st < 63244800 := by rw [hst.2.2.1]; exact hst.2.1
  obtain ⟨p, p1, p2⟩ := hI.2.2.2.2.1 st (dj_all hn hst.1 hsz)
  have hls : ld (2 * k) (EV v k) X.1 g st := ld_st hE hI hP (X.1 g + 1) g (Nat.lt_succ_self _) hg hgz ld_g
  obtain ⟨v2, h, c, r1, r2, r3, r4, r5, r6, r7, r8⟩ := fm_trace (RelN_C h0) hI hn hg hgz (y5 := y5) 64 0 v1 (fun _ => st) p (by omega) (Nat.zero_le _) p1 p2 hls (fun j hj => absurd hj (Nat.not_lt_zero _)) (RelN_C a1) a2.1 a3 ⟨a2.2.trans hv3, fun j hj => absurd hj (Nat.not_lt_zero _)⟩
  exact ⟨v2, h, c, r1, r2, r3, r4, r5, r6, a4.trans r7, a5 r8⟩
theorem i3_rel (h : RelC n k d u v) (hu : s4_i u 3 = 0) (hv : s4_i v 3 = -1) : Rel u v :=
  ⟨n, k, d, 0, h.1, h.2.1, h.2.2.1, h.2.2.2.1, h.2.2.2.2.1, h.2.2.2.2.2.1, h.2.2.2.2.2.2.1, h.2.2.2.2.2.2.2, by omega, hu, Or.inr ⟨rfl, hv⟩, fun j hj => absurd hj (Nat.not_lt_zero _)⟩
theorem wA_rel (h : RelC n k d u v) {e : Nat → Nat} {c c' : Nat → Nat} {z : S4} {a : Nat} (ha : a < 24) (hc : ∀ i, i ≤ a → c i = c' i) (hu : wA u 3 15 16 z e c a) (hv : wA v 3 16 17 z e c' a) : Rel u v :=
  ⟨n, k, d, a, h.1, h.2.1, h.2.2.1, h.2.2.2.1, h.2.2.2.2.1, h.2.2.2.2.2.1, h.2.2.2.2.2.2.1, h.2.2.2.2.2.2.2, by omega, hu.1, Or.inl hv.1, fun j hj => by
    have e1 := hu.2 j hj
    have e2 := hv.2 j hj
    rw [hc (j + 1) (by omega)] at e1
    exact ⟨e1.1.trans e2.1.symm, e1.2.trans e2.2.symm⟩⟩
end LE
theorem op_least {u v : S4} (h : Rel u v) (x1 : Int32) (x2 : Int32) (x3 : Int32) (x4 : Int32) (x5 : Int32) : (xq_O_least u x1 x2 x3 x4 x5) ∧ (mq_M_least v x1 x2 x3 x4 x5) ∧ (xp_O_least u x1 x2 x3 x4 x5).1 = (mp_M_least v x1 x2 x3 x4 x5).1 ∧ Rel (xp_O_least u x1 x2 x3 x4 x5).2 (mp_M_least v x1 x2 x3 x4 x5).2 := by
  obtain ⟨n, k, d, w, hR⟩ := id h
  have k12 := hR.2.2.1.1
  have iu := hR.2.2.1.2.1
  have iv := hR.2.2.1.2.2.1
  have e5 : x5.toInt64.toInt = x5.toInt := Int32.toInt_toInt64 x5
  have f0 : (0 : Int64).toInt = 0 := rfl
  have f1 : (31622399 : Int64).toInt = 31622399 := rfl
  have g0 : x5 < 0 ↔ x5.toInt < 0 := i32_lt rfl
  have g1 : x5 < 31622400 ↔ x5.toInt < 31622400 := i32_lt rfl
  have hi5 : mp_M_isIn v x5.toInt64 0 31622399 = 0 ↔ ¬ (0 ≤ x5.toInt ∧ x5.toInt ≤ 31622399) := by rw [isIn_iff, e5, f0, f1]
  rcases isSide_or iv k12 x1 x2 with a0 | ⟨a1, st, hst, est⟩
  · exact op_mk (r := -1) (U := u) (V := v) (by simp [xq_O_least, sd_eq iu iv, a0]) (by simp [mq_M_least, a0]) (by simp [xp_O_least, sd_eq iu iv, a0]) (by simp [mp_M_least, a0]) h
  have a1' : ¬ mp_M_isSide v x1 x2 = 0 := by rw [a1]; exact one_ne
  rcases isSide_or iv k12 x3 x4 with b0 | ⟨b1, g, hg, eg⟩
  · exact op_mk (r := -1) (U := u) (V := v) (by simp [xq_O_least, sd_eq iu iv, a1', b0]) (by simp [mq_M_least, a1', b0]) (by simp [xp_O_least, sd_eq iu iv, a1', b0]) (by simp [mp_M_least, a1', b0]) h
  have b1' : ¬ mp_M_isSide v x3 x4 = 0 := by rw [b1]; exact one_ne
  by_cases c1 : x5.toInt < 0
  · have c1' := g0.mpr c1
    have c2' := hi5.mpr (fun z => by omega)
    exact op_mk (r := -1) (U := u) (V := v) (by simp [xq_O_least, sd_eq iu iv, a1', b1', c1']) (by simp [mq_M_least, a1', b1', c2']) (by simp [xp_O_least, sd_eq iu iv, a1', b1', c1']) (by simp [mp_M_least, a1', b1', c2']) h
  have c1' : ¬ x5 < 0 := fun z => c1 (g0.mp z)
  by_cases c2 : x5.toInt < 31622400
  case neg =>
    have c2' : ¬ x5 < 31622400 := fun z => c2 (g1.mp z)
    have c3' := hi5.mpr (fun z => by omega)
    exact op_mk (r := -1) (U := u) (V := v) (by simp [xq_O_least, sd_eq iu iv, a1', b1', c1', c2']) (by simp [mq_M_least, a1', b1', c3']) (by simp [xp_O_least, sd_eq iu iv, a1', b1', c1', c2']) (by simp [mp_M_least, a1', b1', c3']) h
  have c2' := g1.mpr c2
  have c3' : ¬ mp_M_isIn v x5.toInt64 0 31622399 = 0 := fun z => hi5.mp z (by omega)
  obtain ⟨t0, t1, t2, t3⟩ := nI_of_r (x := x5) (m := 31622399) (by omega) (by omega)
  have hR1 : RelN n k d 0 (s4_si u 3 0) (s4_si v 3 0) := ⟨hR.1, hR.2.1, hR.2.2.1, hR.2.2.2.1, hR.2.2.2.2.1, hR.2.2.2.2.2.1, hR.2.2.2.2.2.2.1, hR.2.2.2.2.2.2.2.1, by omega, rfl, Or.inl rfl, fun j hj => absurd hj (Nat.not_lt_zero _)⟩
  obtain ⟨X, hX⟩ : ∃ X, X = dj_it (2 * k) 63244800 (EV (s4_si v 3 0) k) (2 * k) (dj_x0 63244800 st t0) := ⟨_, rfl⟩
  obtain ⟨hI, hn, hP⟩ := x_dj_I (RelN_C hR1) hst (show t0 < 63244800 by omega) hX
  obtain ⟨u1, p1, p2, p3, p4⟩ := x_exp hR1 hst (show t0 < 63244800 by omega) hX
  have hzg := hI.1 g
  have hing : vp_in (nI g) 24 := vp_in_nI (by omega) (by decide)
  have hst0 := hI.2.2.2.2.2.2.2.2.2.1
  have hr1 : s4_ra u1 10 (nI g) = nI (X.1 g) := by rw [s4_ra_n (by omega), p2.1 g (by omega)]
  have hf : xp_HeldWay_forget u = s4_si u 3 0 := rfl
  have hcq : xq_Search_comesTo u1 (nI g) := hing
  have hsg : nI st = nI g ↔ st = g := nI_eq (by omega) (by omega)
  have hz32 : nI (X.1 g) = (63244800 : Int32) ↔ X.1 g = 63244800 := nI_eq (b := 63244800) (by omega) (by decide)
  by_cases c4 : X.1 g = 63244800
  · have hng : ¬ st = g := fun z => by rw [z] at hst0; omega
    have hct : xp_Search_comesTo u1 (nI g) = 0 := by unfold xp_Search_comesTo; rw [hr1, if_pos (hz32.mpr c4)]
    obtain ⟨v1, q1, q2, q3, q4⟩ := m_set hR1 hst (show t0 < 63244800 by omega) hX
    have hrm : s4_ra v1 13 (nI g) = eI (X.1 g) := by rw [s4_ra_n (by omega), (q2.1 g (by omega)).1]
    have hneg : ¬ (0 : Int32) ≤ eI (X.1 g) := by
      unfold eI
      rw [if_pos c4]
      decide
    have hC : RelC n k d u1 v1 := relC_glue (RelN_C p1) (RelN_C hR1) (RelN_C q1)
    have hC' : RelC n k d u1 (s4_si v1 3 (-1)) := hC
    refine op_mk (r := -1) (U := u1) (V := s4_si v1 3 (-1)) ?_ ?_ ?_ ?_ (i3_rel hC' p1.2.2.2.2.2.2.2.2.2.1 rfl)
    · simp only [xq_O_least, sd_eq iu iv, a1', b1', c1', c2', xp_O_numberOf, est, eg, hf, t2 ▸ p3, t2 ▸ p4, hcq, hct, not_false_eq_true, true_implies, not_true_eq_false, false_implies, true_and, and_true]
    · simp only [mq_M_least, a1', b1', c3', est, eg, hsg, hng, t2 ▸ q3, t2 ▸ q4, hing, hrm, hneg, not_false_eq_true, true_implies, false_implies, true_and, and_true]
    · simp only [xp_O_least, sd_eq iu iv, a1', b1', c1', c2', xp_O_numberOf, est, eg, hf, t2 ▸ p3, hct, if_true, if_false]
    · simp only [mp_M_least, a1', b1', c3', est, eg, hsg, hng, t2 ▸ q3, hrm, hneg, if_false]
  · have hgz : X.1 g < 63244800 := by omega
    have hct : xp_Search_comesTo u1 (nI g) = 1 := by unfold xp_Search_comesTo; rw [hr1, if_neg (fun z => c4 (hz32.mp z))]
    obtain ⟨u2, a, c, w1, w2, w3, w4, w5, w6, w7, w8, w9, w10⟩ := x_way hI hn hP hg hgz p1 p2
    have hre : xp_Search_earliestAt u2 (nI g) = nI (X.1 g) := by
      unfold xp_Search_earliestAt
      rw [s4_ra_n (by omega), w6]
    have hreq : xq_Search_earliestAt u2 (nI g) := hing
    have hx : xp_O_least u x1 x2 x3 x4 x5 = (nI (X.1 g) - x5, u2) := by
      simp only [xp_O_least, sd_eq iu iv, a1', b1', c1', c2', xp_O_numberOf, est, eg, hf, t2 ▸ p3, hct, one_ne, w8, hre, if_true, if_false]
    have hxq : xq_O_least u x1 x2 x3 x4 x5 := by
      simp only [xq_O_least, sd_eq iu iv, a1', b1', c1', c2', xp_O_numberOf, est, eg, hf, t2 ▸ p3, t2 ▸ p4, hcq, hct, one_ne, w8, w9, w10, hreq, not_false_eq_true, true_implies, not_true_eq_false, false_implies, true_and, and_true]
    by_cases c5 : st = g
    · have ha0 : a = 0 := by
        rcases Nat.eq_zero_or_pos a with z | z
        · exact z
        · exact absurd (w2.trans c5) (w4 0 z).1
      subst ha0
      have h00 : nI (X.1 g) - x5 = 0 := by
        rw [← c5, hst0, ← t2]
        exact Int32.sub_self _
      refine op_mk (r := 0) (U := u2) (V := s4_si v 3 0) hxq ?_ (hx.trans (by rw [h00])) ?_ ⟨n, k, d, 0, w5.1, w5.2.1, w5.2.2.1, w5.2.2.2.1, w5.2.2.2.2.1, w5.2.2.2.2.2.1, w5.2.2.2.2.2.2.1, w5.2.2.2.2.2.2.2, by omega, w7.1, Or.inl rfl, fun j hj => absurd hj (Nat.not_lt_zero _)⟩
      · simp only [mq_M_least, a1', b1', c3', est, eg, hsg, c5, not_true_eq_false, false_implies, not_false_eq_true, true_implies]
      · simp only [mp_M_least, a1', b1', c3', est, eg, hsg, c5, if_true, if_false]
    · obtain ⟨v1, q1, q2, q3, q4⟩ := m_set hR1 hst (show t0 < 63244800 by omega) hX
      have hrm : s4_ra v1 13 (nI g) = nI (X.1 g) := by rw [s4_ra_n (by omega), (q2.1 g (by omega)).1, eI_pos c4]
      have hpos : (0 : Int32) ≤ nI (X.1 g) := nI_le (a := 0) (Nat.zero_le _) (by omega)
      obtain ⟨v2, a', c', z1, z2, z3, z4, z5, z6, z7, z8⟩ := m_way hR1 rfl hI hn hP hg hgz q1 q2 (y5 := x5)
      obtain ⟨s1, s2⟩ := wC_fun (w2.trans z2.symm) w4 z4 w3 z3
      subst s1
      refine op_mk (r := nI (X.1 g) - x5) (U := u2) (V := v2) hxq ?_ hx ?_ (wA_rel (relC_glue w5 (RelN_C hR1) z5) w1 s2 w7 z6)
      · simp only [mq_M_least, a1', b1', c3', est, eg, hsg, c5, t2 ▸ q3, t2 ▸ q4, hing, hrm, hpos, z8, not_false_eq_true, true_implies, false_implies, true_and, and_true]
      · simp only [mp_M_least, a1', b1', c3', est, eg, hsg, c5, t2 ▸ q3, hrm, hpos, z7, if_true, if_false]
