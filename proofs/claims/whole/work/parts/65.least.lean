/-! PURE: least, both sides together -/
section LE
variable {n k d : Nat} {u v : S4}
theorem x_dj_I (h0 : RelC n k d u v) {st t0 : Nat} (hst : st < 2 * k) (ht : t0 < 63244800) {X : dj_X} (hX : X = dj_it (2 * k) 63244800 (EV v k) (2 * k) (dj_x0 63244800 st t0)) : dj_I (2 * k) 63244800 st t0 X ∧ dj_st (2 * k) 63244800 (EV v k) X = none ∧ dj_P (2 * k) 63244800 (EV v k) st X := by
  have hE := EV_good h0
  have hI0 : dj_I (2 * k) 63244800 st t0 (dj_x0 63244800 st t0) := dj_I0 hst ht
  rw [hX]
  exact ⟨dj_it_I hE _ hI0, dj_end hE _ hI0 (by show 2 * k ≤ 0 + 2 * k; omega), dj_P_it hE _ hI0 dj_P0⟩
theorem x_exp (h0 : RelN n k d 0 u v) {st t0 : Nat} (hst : st < 2 * k) (ht : t0 < 63244800) {X : dj_X} (hX : X = dj_it (2 * k) 63244800 (EV v k) (2 * k) (dj_x0 63244800 st t0)) : ∃ u' : S4, RelN n k d 0 u' v ∧ XA u' X ∧ xp_Search_explore u (nI st) (nI t0) = u' ∧ xq_Search_explore u (nI st) (nI t0) := by
  have k12 := h0.2.2.1.1
  have hI0 : dj_I (2 * k) 63244800 st t0 (dj_x0 63244800 st t0) := dj_I0 hst ht
  obtain ⟨u1, a1, a2, a3, a4, a5⟩ := fx_forget (v := v) 64 0 u (by omega) (by omega) h0 (fun q hq => absurd hq (Nat.not_lt_zero _))
  have hA0 : XA (s4_wa u1 10 (nI st) (nI t0)) (dj_x0 63244800 st t0) := by
    rw [s4_wa_n (show st < 2 ^ 31 by omega)]
    refine ⟨fun q hq => ?_, fun q hq => ?_, fun i hi => absurd hi (Nat.not_lt_zero _), a3, fun q hq => (a2 q hq).2.2⟩
    · show upd (s4_a u1 10) st (nI t0) q = nI (va_up (fun _ => 63244800) st t0 q)
      unfold upd va_up
      by_cases hq' : q = st
      · rw [if_pos hq', if_pos hq']
      · rw [if_neg hq', if_neg hq']; exact (a2 q hq).1
    · show s4_a u1 11 q = if false = true then 1 else 0
      rw [(a2 q hq).2.1]
      rfl
  obtain ⟨u2, b1, b2, b3, b4⟩ := fx_explore (n := n) (d := d) (w := 0) (v := v) (k := k) (st := st) (t0 := t0) 64 (2 * k) (s4_wa u1 10 (nI st) (nI t0)) (dj_x0 63244800 st t0) (Nat.zero_le _) (by show 0 + 2 * k = 2 * k; omega) (by omega) hI0 a1 hA0
  have hsd : xp_Streets_sides (s4_wa u1 10 (nI st) (nI t0)) = nI (2 * k) := sides_n a1.2.2.1.2.1
  have hf : xp_Search_forget u = u1 := a4
  have hfq : xq_Search_forget u := a5
  have hin : vp_in (nI st) 24 := vp_in_nI (by omega) (by decide)
  refine ⟨u2, b1, by rw [hX]; exact b2, ?_, ?_⟩
  · unfold xp_Search_explore
    simp only [hf, hsd]
    exact b3
  · unfold xq_Search_explore
    simp only [hf, hfq, hsd, hin, true_and]
    exact b4
theorem x_way {st t0 : Nat} {X : dj_X} (hI : dj_I (2 * k) 63244800 st t0 X) (hn : dj_st (2 * k) 63244800 (EV v k) X = none) (hP : dj_P (2 * k) 63244800 (EV v k) st X) {g : Nat} (hg : g < 2 * k) (hgz : X.1 g < 63244800) (hR : RelN n k d 0 u v) (hA : XA u X) :
    ∃ (u' : S4) (h : Nat) (c : Nat → Nat), h < 24 ∧ c 0 = st ∧ c h = g ∧ wC v k X.1 g c h ∧ RelC n k d u' v ∧ s4_a u' 10 g = nI (X.1 g) ∧ wA u' 3 15 16 v X.1 c h ∧ xp_Search_trace (xp_Search_markLeading u (nI g)) (nI st) (nI g) = u' ∧ xq_Search_markLeading u (nI g) ∧ xq_Search_trace (xp_Search_markLeading u (nI g)) (nI st) (nI g) := by
  have k12 := hR.2.2.1.1
  have hE := EV_good (RelN_C hR)
  have hcN := dj_cnt hI
  have hin : vp_in (nI g) 24 := vp_in_nI (by omega) (by decide)
  have hL0 : LA (2 * k) u 12 (fun _ => False) := fun q hq => Or.inr ⟨hA.2.2.2.2 q (by omega), fun z => z⟩
  have hL1 : LA (2 * k) (s4_wz u 12 (nI g) 1) 12 (ld_i (2 * k) (EV v k) X.1 g X.2.2.1 X.2.2.2 X.2.2.2) := LA_iff (LA_set hL0 (show g < 2 ^ 31 by omega)) (fun q => ⟨fun z => by
    rcases z with z | z
    · exact Or.inl z
    · exact z.elim, fun z => by
    rcases z with z | ⟨j, j1, j2, -⟩
    · exact Or.inl z
    · omega⟩)
  obtain ⟨u1, m1, m2, m3, m4, m5⟩ := fx_mark (n := n) (d := d) (w := 0) hE hI hn (g := g) 64 X.2.2.2 (s4_wz u 12 (nI g) 1) (Nat.le_refl _) (by omega) hR hA.1 hA.2.2.1 hL1
  have hi2 : s4_i (s4_wz u 12 (nI g) 1) 2 = nI X.2.2.2 := hA.2.2.2.1
  have hmk : xp_Search_markLeading u (nI g) = u1 := by
    unfold xp_Search_markLeading
    simp only [hi2]
    exact m4
  have hmq : xq_Search_markLeading u (nI g) := by
    unfold xq_Search_markLeading
    simp only [hi2, hin, true_and]
    exact m5
  have hL2 : LA (2 * k) u1 12 (ld (2 * k) (EV v k) X.1 g) := fun q hq => by
    rw [← ld_all hE hI hn hg hgz hq]
    exact m3 q hq
  have hst := hI.2.2.2.2.2.2.2
  have hsz : X.1 st < 63244800 := by rw [hst.2.2.1]; exact hst.2.1
  obtain ⟨p, p1, p2⟩ := hI.2.2.2.2.1 st (dj_all hn hst.1 hsz)
  have hls : ld (2 * k) (EV v k) X.1 g st := ld_st hE hI hP (X.1 g + 1) g (Nat.lt_succ_self _) hg hgz ld_g
  obtain ⟨u2, h, c, r1, r2, r3, r4, r5, r6, r7, r8, r9⟩ := fx_trace hE hI hn hg hgz 64 0 u1 (fun _ => st) p (by omega) (Nat.zero_le _) p1 p2 hls (fun j hj => absurd hj (Nat.not_lt_zero _)) (RelN_C m1) m2 hL2 ⟨m1.2.2.2.2.2.2.2.2.2.1, fun j hj => absurd hj (Nat.not_lt_zero _)⟩
  exact ⟨u2, h, c, r1, r2, r3, r4, r5, r6 g (by omega), r7, by rw [hmk]; exact r8, hmq, by rw [hmk]; exact r9⟩
theorem m_set (h0 : RelN n k d 0 u v) {st t0 : Nat} (hst : st < 2 * k) (ht : t0 < 63244800) {X : dj_X} (hX : X = dj_it (2 * k) 63244800 (EV v k) (2 * k) (dj_x0 63244800 st t0)) : ∃ v' : S4, RelN n k d 0 u v' ∧ MA v v' st X.1 ∧ mp_M_settle v (nI st) (nI t0) = v' ∧ mq_M_settle v (nI st) (nI t0) := by
  obtain ⟨v2, a1, a2, a3, a4⟩ := fm_init h0 hst ht 64 0 v (by omega) (by omega) h0 (fun q hq => absurd hq (Nat.not_lt_zero _))
  exact ⟨v2, a1, by rw [hX]; exact a2, a3, a4⟩
theorem m_way (h0 : RelN n k d 0 u v) {st t0 : Nat} {X : dj_X} (hI : dj_I (2 * k) 63244800 st t0 X) (hn : dj_st (2 * k) 63244800 (EV v k) X = none) (hP : dj_P (2 * k) 63244800 (EV v k) st X) {g : Nat} (hg : g < 2 * k) (hgz : X.1 g < 63244800) {v' : S4} (hR : RelN n k d 0 u v') (h3 : s4_i v' 3 = 0) (hA : MA v v' st X.1) {y5 : Int32} :
    ∃ (v2 : S4) (h : Nat) (c : Nat → Nat), h < 24 ∧ c 0 = st ∧ c h = g ∧ wC v k X.1 g c h ∧ RelC n k d u v2 ∧ wA v2 3 16 17 v X.1 c h ∧ mL_M_least_91 64 v' y5 (nI st) (nI g) 0 = (nI (X.1 g) - y5, v2) ∧ mLq_M_least_91 64 v' y5 (nI st) (nI g) 0 := by
  sorry
end LE
