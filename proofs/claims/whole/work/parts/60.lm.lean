/-! PURE: least, the reference's side -/
theorem mk_sm : ∀ q, q < 64 → ((((nI q).toInt64 &&& 63).toBitVec.smod 64)).toNat = q := by decide +kernel
theorem mk_bit {mask : Int64} {q : Nat} (hq : q < 64) : ((mask >>> ((nI q).toInt64 &&& 63)) &&& 1 = 0) ↔ mask.toBitVec.getLsbD q = false := by
  rw [← Int64.toBitVec_inj, Int64.toBitVec_and, Int64.toBitVec_shiftRight]
  have e1 : (1 : Int64).toBitVec = BitVec.twoPow 64 0 := by decide
  have e0 : (0 : Int64).toBitVec = 0#64 := rfl
  rw [e1, e0, BitVec.and_twoPow]
  have hs : (mask.toBitVec.sshiftRight' ((((nI q).toInt64 &&& 63).toBitVec.smod 64))).getLsbD 0 = mask.toBitVec.getLsbD q := by
    rw [BitVec.sshiftRight_eq', mk_sm q hq, BitVec.getLsbD_sshiftRight]
    simp [hq]
  rw [hs]
  have hne := tp_ne 0 (by decide)
  cases mask.toBitVec.getLsbD q with
  | false => simp
  | true => simp [hne]
theorem mk_set {mask : Int64} {a q : Nat} (ha : a < 64) (hq : q < 64) : (mask ||| ((1 : Int64) <<< ((nI a).toInt64 &&& 63))).toBitVec.getLsbD q = if q = a then true else mask.toBitVec.getLsbD q := by
  rw [Int64.toBitVec_or, cl_bit a ha, BitVec.getLsbD_or, BitVec.getLsbD_twoPow]
  by_cases h : q = a
  · subst h; simp [hq]
  · have : ¬ a = q := fun z => h z.symm
    simp [h, this]
theorem lvI_inj {o o' : Option Nat} (h : ∀ x, o = some x → x < 2 ^ 31) (h' : ∀ x, o' = some x → x < 2 ^ 31) (e : lvI o = lvI o') : o = o' := by
  cases o with
  | none =>
    cases o' with
    | none => rfl
    | some y => exact absurd e.symm (nI_ne_m1 (h' y rfl))
  | some x =>
    cases o' with
    | none => exact absurd e (nI_ne_m1 (h x rfl))
    | some y =>
      have : nI x = nI y := e
      rw [nI_eq (h x rfl) (h' y rfl)] at this
      rw [this]
theorem mE {n k d : Nat} {u v v' : S4} (h0 : RelC n k d u v) (h : RelC n k d u v') {a b t : Nat} (ha : a < 2 * k) (hb : b < 2 * k) (ht : t < 63244800) : mq_M_goesInto v' (nI a) (nI b) ∧ (mp_M_goesInto v' (nI a) (nI b) = 0 ↔ gG v a b = false) ∧ mq_M_begun3 v' (nI a) (nI t) (nI b) ∧ (gG v a b = true → mp_M_begun3 v' (nI a) (nI t) (nI b) = lvI (bgO v a b t)) ∧ s4_ra v' 5 (nI b / 2) = nI (secN v b) ∧ (∀ x, bgO v a b t = some x → x < 31622400) ∧ secN v b ≤ 10000 := by
  obtain ⟨g1, g2⟩ := gM h0 h ha hb
  obtain ⟨o, b1, b2, b3, b4, b5, b6, b7, b8, -⟩ := beg_eq h0 ha hb (show t < 90000000 by omega)
  obtain ⟨o', c1, c2, c3, c4, c5, c6, c7, c8, -⟩ := beg_eq h ha hb (show t < 90000000 by omega)
  have hsec : secN v' b = secN v b := by
    unfold secN
    rw [← h.2.2.1.2.2.2.2.2.1, h0.2.2.1.2.2.2.2.2.1]
  have ho := bgO_eq b2 (fun x hx => by have := b3 x hx; omega)
  refine ⟨g1, g2, c1, fun hg => ?_, by rw [c8, hsec], fun x hx => (b3 x (ho.symm.trans hx)).2, b7⟩
  have hg' : gG v' a b = true := by
    have q1 := (gX h ha hb).2
    have q2 := (gX h0 ha hb).2
    cases hh : gG v' a b with
    | true => rfl
    | false =>
      have := q2.mp (q1.mpr hh)
      rw [hg] at this
      cases this
  rw [b5, if_pos hg, if_pos hg', hsec] at c5
  rw [c2, ho]
  congr 1
  have e := lvI_inj (o := o.map (fun x => x + secN v b)) (o' := o'.map (fun x => x + secN v b)) (fun x hx => by
    cases o with
    | none => cases hx
    | some y =>
      have z := b3 y rfl
      have : y + secN v b = x := Option.some.inj hx
      omega) (fun x hx => by
    cases o' with
    | none => cases hx
    | some y =>
      have z := c3 y rfl
      have : y + secN v b = x := Option.some.inj hx
      omega) c5
  cases o with
  | none =>
    cases o' with
    | none => rfl
    | some y => cases e
  | some x =>
    cases o' with
    | none => cases e
    | some y =>
      have : x + secN v b = y + secN v b := Option.some.inj e
      congr 1
      omega
def eI (e : Nat) : Int32 := if e = 63244800 then -1 else nI e
def MA0 (v v' : S4) (st : Nat) (e : Nat → Nat) : Prop := ∀ q, q < 24 → s4_a v' 13 q = eI (e q) ∧ s4_a v' 14 q = (if q = st ∨ e q = 63244800 then -1 else nI (e q - secN v q)) ∧ (q = st ∨ e q = 63244800 ∨ secN v q ≤ e q)
def MA (v v' : S4) (st : Nat) (e : Nat → Nat) : Prop := MA0 v v' st e ∧ s4_i v' 3 = s4_i v 3
def MK (mask : Int64) (s : Nat → Bool) : Prop := ∀ q, q < 24 → mask.toBitVec.getLsbD q = s q
theorem eI_neg {e : Nat} (h : e ≤ 63244800) : eI e < 0 ↔ e = 63244800 := by
  unfold eI
  by_cases hc : e = 63244800
  · rw [if_pos hc]; exact ⟨fun _ => hc, fun _ => by decide⟩
  · rw [if_neg hc]; exact ⟨fun z => absurd z (nI_pos (by omega)), fun z => absurd z hc⟩
theorem eI_pos {e : Nat} (hc : ¬ e = 63244800) : eI e = nI e := if_neg hc
section MS
variable {n k d w : Nat} {u v : S4}
theorem fm_relax (h0 : RelN n k d w u v) {a st : Nat} (ha : a < 2 * k) {e : Nat → Nat} {s : Nat → Bool} (hz : ∀ q, e q ≤ 63244800) (hea : e a < 63244800) (hset : ∀ q, s q = true → e q ≤ e a) (hst : s st = true) {mask : Int64} (hK : MK mask s) : ∀ (m i : Nat) (v' : S4), i ≤ 2 * k → 2 * k < i + m → RelN n k d w u v' → MA v v' st (dj_rk (EV v k) e a i) →
    ∃ v2 : S4, RelN n k d w u v2 ∧ MA v v2 st (dj_rk (EV v k) e a (2 * k)) ∧ (∀ K, mL_M_settle_55 K m v' mask (nI a) (nI i) = mL_M_settle_198 K 64 v2 mask (-1) 0) ∧ (∀ Q : S4 → Int64 → Int32 → Prop, mLq_M_settle_198 Q 64 v2 mask (-1) 0 → mLq_M_settle_55 Q m v' mask (nI a) (nI i)) := by
  have hE := EV_good (RelN_C h0)
  intro m
  induction m with
  | zero => intro i v' h1 h2; omega
  | succ m ih =>
    intro i v' h1 h2 hR hA
    have k12 := hR.2.2.1.1
    have hs := sides_n hR.2.2.1.2.2.1
    by_cases hie : i = 2 * k
    · subst hie
      have hle : nI (2 * k) ≤ nI (2 * k) := nI_le (Nat.le_refl _) (by omega)
      refine ⟨v', hR, hA, fun K => ?_, fun Q hQ => ?_⟩
      · show mB_M_settle_55 K _ v' _ _ _ = _
        unfold mB_M_settle_55
        simp only [hs, hle, if_true]
      · show mBq_M_settle_55 Q _ v' _ _ _
        unfold mBq_M_settle_55
        simp only [hs, hle, not_true_eq_false, false_implies, and_true, true_implies]
        exact hQ
    · have hi : i < 2 * k := by omega
      have hle : ¬ nI (2 * k) ≤ nI i := nI_ge hi (by omega)
      have hin : vp_in (nI i) 24 := vp_in_nI (by omega) (by decide)
      have hina : vp_in (nI a) 24 := vp_in_nI (by omega) (by decide)
      have hin2 : vp_in (nI i / 2) 12 := by rw [sd_div (by omega)]; exact vp_in_nI (by omega) (by decide)
      have hra : s4_ra v' 13 (nI a) = nI (e a) := by
        rw [s4_ra_n (by omega), (hA.1 a (by omega)).1, dj_rk_old hE (Nat.le_refl _), eI_pos (by omega)]
      have hri : s4_ra v' 13 (nI i) = eI (e i) := by
        rw [s4_ra_n (by omega), (hA.1 i (by omega)).1]
        unfold dj_rk
        rw [if_neg (by omega)]
      have hbit : lg_cmp ((mask >>> ((nI i).toInt64 &&& 63)) &&& 1) 0 = 0 ↔ s i = false := by
        rw [lc_eq, mk_bit (by omega), hK i (by omega)]
      obtain ⟨m1, m2, m3, m4, m5, m6, m7⟩ := mE (RelN_C h0) (RelN_C hR) ha hi hea
      have hzi := hz i
      have keep : dj_v (EV v k) e a i = e i → ∃ v2 : S4, RelN n k d w u v2 ∧ MA v v2 st (dj_rk (EV v k) e a (2 * k)) ∧ (∀ K, mL_M_settle_55 K m v' mask (nI a) (nI (i + 1)) = mL_M_settle_198 K 64 v2 mask (-1) 0) ∧ (∀ Q : S4 → Int64 → Int32 → Prop, mLq_M_settle_198 Q 64 v2 mask (-1) 0 → mLq_M_settle_55 Q m v' mask (nI a) (nI (i + 1))) := fun hv =>
        ih (i + 1) v' (by omega) (by omega) hR (by rw [rk_succ, hv, va_id (by unfold dj_rk; rw [if_neg (by omega)])]; exact hA)
      by_cases c1 : s i = false
      · have c1' := hbit.mpr c1
        by_cases c2 : gG v a i = false
        · have c2' := m2.mpr c2
          have hv : dj_v (EV v k) e a i = e i := by
            have : EV v k a i (e a) = none := by unfold EV; rw [if_neg (fun z => by rw [c2] at z; exact Bool.noConfusion z.2.2.2)]
            unfold dj_v; rw [this]
          obtain ⟨v2, r1, r2, r3, r4⟩ := keep hv
          refine ⟨v2, r1, r2, fun K => ?_, fun Q hQ => ?_⟩
          · show mB_M_settle_55 K _ v' _ _ _ = _
            unfold mB_M_settle_55
            simp only [hs, hle, if_false, c1', c2', if_true, nI_1]
            exact r3 K
          · show mBq_M_settle_55 Q _ v' _ _ _
            unfold mBq_M_settle_55
            simp only [hs, hle, c1', c2', m1, nI_1, not_false_eq_true, not_true_eq_false, true_implies, false_implies, true_and, and_true]
            exact r4 Q hQ
        · have c2t : gG v a i = true := by cases hh : gG v a i with
            | true => rfl
            | false => exact absurd hh c2
          have c2' : ¬ mp_M_goesInto v' (nI a) (nI i) = 0 := fun z => c2 (m2.mp z)
          have hb3 := m4 c2t
          have hEV : EV v k a i (e a) = (bgO v a i (e a)).map (fun x => x + secN v i) := by unfold EV; rw [if_pos ⟨ha, hi, hea, c2t⟩]
          cases hbo : bgO v a i (e a) with
          | none =>
            have hv : dj_v (EV v k) e a i = e i := by unfold dj_v; rw [hEV, hbo]; rfl
            have hneg : mp_M_begun3 v' (nI a) (nI (e a)) (nI i) < 0 := by rw [hb3, hbo]; decide
            obtain ⟨v2, r1, r2, r3, r4⟩ := keep hv
            refine ⟨v2, r1, r2, fun K => ?_, fun Q hQ => ?_⟩
            · show mB_M_settle_55 K _ v' _ _ _ = _
              unfold mB_M_settle_55
              simp only [hs, hle, if_false, c1', c2', hra, hneg, if_true, nI_1]
              exact r3 K
            · show mBq_M_settle_55 Q _ v' _ _ _
              unfold mBq_M_settle_55
              simp only [hs, hle, c1', c2', m1, m3, hra, hneg, hina, nI_1, not_false_eq_true, not_true_eq_false, true_implies, false_implies, true_and, and_true]
              exact r4 Q hQ
          | some y =>
            have hy := m6 y hbo
            rw [hbo] at hb3 hEV
            have hEV' : EV v k a i (e a) = some (y + secN v i) := hEV
            have hb4 : mp_M_begun3 v' (nI a) (nI (e a)) (nI i) = nI y := hb3
            have hneg : ¬ nI y < 0 := nI_pos (by omega)
            have hsum : nI y + nI (secN v i) = nI (y + secN v i) := nI_add _ _
            have hr := hE _ _ _ _ hEV'
            have hist : i ≠ st := fun z => by rw [z, hst] at c1; cases c1
            have write : y + secN v i < e i → ∃ v2 : S4, RelN n k d w u v2 ∧ MA v v2 st (dj_rk (EV v k) e a (2 * k)) ∧ (∀ K, mL_M_settle_55 K m (s4_wa (s4_wa v' 13 (nI i) (nI (y + secN v i))) 14 (nI i) (nI y)) mask (nI a) (nI (i + 1)) = mL_M_settle_198 K 64 v2 mask (-1) 0) ∧ (∀ Q : S4 → Int64 → Int32 → Prop, mLq_M_settle_198 Q 64 v2 mask (-1) 0 → mLq_M_settle_55 Q m (s4_wa (s4_wa v' 13 (nI i) (nI (y + secN v i))) 14 (nI i) (nI y)) mask (nI a) (nI (i + 1))) := fun hlt => by
              have hv : dj_v (EV v k) e a i = y + secN v i := by unfold dj_v; rw [hEV']; exact if_pos hlt
              refine ih (i + 1) (s4_wa (s4_wa v' 13 (nI i) (nI (y + secN v i))) 14 (nI i) (nI y)) (by omega) (by omega) hR ⟨fun q hq => ?_, hA.2⟩
              rw [s4_wa_n (show i < 2 ^ 31 by omega), s4_wa_n (show i < 2 ^ 31 by omega), rk_succ, hv]
              show upd (s4_a v' 13) i (nI (y + secN v i)) q = eI (va_up (dj_rk (EV v k) e a i) i (y + secN v i) q) ∧ upd (s4_a v' 14) i (nI y) q = (if q = st ∨ va_up (dj_rk (EV v k) e a i) i (y + secN v i) q = 63244800 then -1 else nI (va_up (dj_rk (EV v k) e a i) i (y + secN v i) q - secN v q)) ∧ (q = st ∨ va_up (dj_rk (EV v k) e a i) i (y + secN v i) q = 63244800 ∨ secN v q ≤ va_up (dj_rk (EV v k) e a i) i (y + secN v i) q)
              unfold upd va_up
              by_cases hqi : q = i
              · subst hqi
                rw [if_pos rfl, if_pos rfl, if_pos rfl, eI_pos (by omega), if_neg (fun z => z.elim hist (fun z => by omega))]
                exact ⟨rfl, by rw [Nat.add_sub_cancel], Or.inr (Or.inr (by omega))⟩
              · rw [if_neg hqi, if_neg hqi, if_neg hqi]
                exact hA.1 q hq
            by_cases c3 : e i = 63244800
            · have c3' : eI (e i) < 0 := (eI_neg hzi).mpr c3
              obtain ⟨v2, r1, r2, r3, r4⟩ := write (by omega)
              refine ⟨v2, r1, r2, fun K => ?_, fun Q hQ => ?_⟩
              · show mB_M_settle_55 K _ v' _ _ _ = _
                unfold mB_M_settle_55
                simp only [hs, hle, if_false, c1', c2', hra, hri, hb4, hneg, c3', m5, hsum, if_true, nI_1]
                exact r3 K
              · show mBq_M_settle_55 Q _ v' _ _ _
                unfold mBq_M_settle_55
                simp only [hs, hle, c1', c2', m1, m3, hra, hri, hb4, hneg, c3', m5, hsum, hin, hina, hin2, nI_1, not_false_eq_true, not_true_eq_false, true_implies, false_implies, true_and, and_true]
                exact r4 Q hQ
            · have c3' : ¬ eI (e i) < 0 := fun z => c3 ((eI_neg hzi).mp z)
              have hcmp : eI (e i) ≤ nI (y + secN v i) ↔ e i ≤ y + secN v i := by rw [eI_pos c3]; exact nI_leI (by omega) (by omega)
              by_cases c4 : e i ≤ y + secN v i
              · have c4' := hcmp.mpr c4
                have hv : dj_v (EV v k) e a i = e i := by unfold dj_v; rw [hEV']; exact if_neg (by omega)
                obtain ⟨v2, r1, r2, r3, r4⟩ := keep hv
                refine ⟨v2, r1, r2, fun K => ?_, fun Q hQ => ?_⟩
                · show mB_M_settle_55 K _ v' _ _ _ = _
                  unfold mB_M_settle_55
                  simp only [hs, hle, if_false, c1', c2', hra, hri, hb4, hneg, c3', m5, hsum, c4', if_true, nI_1]
                  exact r3 K
                · show mBq_M_settle_55 Q _ v' _ _ _
                  unfold mBq_M_settle_55
                  simp only [hs, hle, c1', c2', m1, m3, hra, hri, hb4, hneg, c3', m5, hsum, c4', hin, hina, hin2, nI_1, not_false_eq_true, not_true_eq_false, true_implies, false_implies, true_and, and_true]
                  exact r4 Q hQ
              · have c4' : ¬ eI (e i) ≤ nI (y + secN v i) := fun z => c4 (hcmp.mp z)
                obtain ⟨v2, r1, r2, r3, r4⟩ := write (by omega)
                refine ⟨v2, r1, r2, fun K => ?_, fun Q hQ => ?_⟩
                · show mB_M_settle_55 K _ v' _ _ _ = _
                  unfold mB_M_settle_55
                  simp only [hs, hle, if_false, c1', c2', hra, hri, hb4, hneg, c3', m5, hsum, c4', if_true, nI_1]
                  exact r3 K
                · show mBq_M_settle_55 Q _ v' _ _ _
                  unfold mBq_M_settle_55
                  simp only [hs, hle, c1', c2', m1, m3, hra, hri, hb4, hneg, c3', m5, hsum, c4', hin, hina, hin2, nI_1, not_false_eq_true, not_true_eq_false, true_implies, false_implies, true_and, and_true]
                  exact r4 Q hQ
      · have c1t : s i = true := by cases hh : s i with
          | true => rfl
          | false => exact absurd hh c1
        have c1' : ¬ lg_cmp ((mask >>> ((nI i).toInt64 &&& 63)) &&& 1) 0 = 0 := fun z => c1 (hbit.mp z)
        have hv : dj_v (EV v k) e a i = e i := dj_v_old hE (hset i c1t)
        obtain ⟨v2, r1, r2, r3, r4⟩ := keep hv
        refine ⟨v2, r1, r2, fun K => ?_, fun Q hQ => ?_⟩
        · show mB_M_settle_55 K _ v' _ _ _ = _
          unfold mB_M_settle_55
          simp only [hs, hle, if_false, c1', nI_1]
          exact r3 K
        · show mBq_M_settle_55 Q _ v' _ _ _
          unfold mBq_M_settle_55
          simp only [hs, hle, c1', nI_1, not_false_eq_true, true_implies, false_implies, true_and, and_true]
          exact r4 Q hQ
end MS
