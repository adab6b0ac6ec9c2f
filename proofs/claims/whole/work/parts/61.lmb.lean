section MS2
variable {n k d w : Nat} {u v : S4}
theorem fm_pick {v' : S4} (hR : RelN n k d w u v') {st : Nat} {e : Nat → Nat} {s : Nat → Bool} (hz : ∀ q, e q ≤ 63244800) {mask : Int64} (hK : MK mask s) (hA : MA v v' st e) : ∀ (m i : Nat), i ≤ 2 * k → 2 * k < i + m →
    (∀ K, mL_M_settle_198 K m v' mask (lvI (dj_pk 63244800 e s i)) (nI i) = K v' mask (lvI (dj_pk 63244800 e s (2 * k)))) ∧ (∀ Q : S4 → Int64 → Int32 → Prop, Q v' mask (lvI (dj_pk 63244800 e s (2 * k))) → mLq_M_settle_198 Q m v' mask (lvI (dj_pk 63244800 e s i)) (nI i)) := by
  have k12 := hR.2.2.1.1
  have hs := sides_n hR.2.2.1.2.2.1
  intro m
  induction m with
  | zero => intro i h1 h2; omega
  | succ m ih =>
    intro i h1 h2
    by_cases hie : i = 2 * k
    · subst hie
      have hle : nI (2 * k) ≤ nI (2 * k) := nI_le (Nat.le_refl _) (by omega)
      refine ⟨fun K => ?_, fun Q hQ => ?_⟩
      · show mB_M_settle_198 K _ v' _ _ _ = _
        unfold mB_M_settle_198
        simp only [hs, hle, if_true]
      · show mBq_M_settle_198 Q _ v' _ _ _
        unfold mBq_M_settle_198
        simp only [hs, hle, not_true_eq_false, false_implies, and_true, true_implies]
        exact hQ
    · have hi : i < 2 * k := by omega
      have hle : ¬ nI (2 * k) ≤ nI i := nI_ge hi (by omega)
      have hin : vp_in (nI i) 24 := vp_in_nI (by omega) (by decide)
      have hri : s4_ra v' 13 (nI i) = eI (e i) := by rw [s4_ra_n (by omega), (hA.1 i (by omega)).1]
      have hbit : lg_cmp ((mask >>> ((nI i).toInt64 &&& 63)) &&& 1) 0 = 0 ↔ s i = false := by
        rw [lc_eq, mk_bit (by omega), hK i (by omega)]
      have hzi := hz i
      have hpk : dj_pk 63244800 e s (i + 1) = (if s i = false ∧ e i < pkE e (dj_pk 63244800 e s i) then some i else dj_pk 63244800 e s i) := by
        show (match dj_pk 63244800 e s i with | none => _ | some j => _) = _
        cases hp : dj_pk 63244800 e s i with
        | none => rfl
        | some j => rfl
      obtain ⟨i1, i2⟩ := ih (i + 1) (by omega) (by omega)
      have key : ∀ o : Option Nat, dj_pk 63244800 e s (i + 1) = o → (∀ K, mL_M_settle_198 K m v' mask (lvI o) (nI (i + 1)) = K v' mask (lvI (dj_pk 63244800 e s (2 * k)))) ∧ (∀ Q : S4 → Int64 → Int32 → Prop, Q v' mask (lvI (dj_pk 63244800 e s (2 * k))) → mLq_M_settle_198 Q m v' mask (lvI o) (nI (i + 1))) := by
        intro o ho
        rw [← ho]
        exact ⟨i1, i2⟩
      have skip : dj_pk 63244800 e s (i + 1) = dj_pk 63244800 e s i → _ := fun z => key _ z
      by_cases c1 : s i = false
      · have c1' := hbit.mpr c1
        by_cases c2 : e i = 63244800
        · have c2' : eI (e i) < 0 := (eI_neg hzi).mpr c2
          obtain ⟨r3, r4⟩ := key (dj_pk 63244800 e s i) (by
            rw [hpk, if_neg]
            rintro ⟨-, z⟩
            have : pkE e (dj_pk 63244800 e s i) ≤ 63244800 := by
              cases hp : dj_pk 63244800 e s i with
              | none => exact Nat.le_refl _
              | some j => exact hz j
            omega)
          refine ⟨fun K => ?_, fun Q hQ => ?_⟩
          · show mB_M_settle_198 K _ v' _ _ _ = _
            unfold mB_M_settle_198
            simp only [hs, hle, if_false, c1', hri, c2', if_true, nI_1]
            exact r3 K
          · show mBq_M_settle_198 Q _ v' _ _ _
            unfold mBq_M_settle_198
            simp only [hs, hle, c1', hri, c2', hin, nI_1, not_false_eq_true, not_true_eq_false, true_implies, false_implies, true_and, and_true]
            exact r4 Q hQ
        · have c2' : ¬ eI (e i) < 0 := fun z => c2 ((eI_neg hzi).mp z)
          cases hp : dj_pk 63244800 e s i with
          | none =>
            have hneg : lvI none < 0 := by decide
            obtain ⟨r3, r4⟩ := key (some i) (by rw [hpk, hp, if_pos ⟨c1, by show e i < 63244800; omega⟩])
            refine ⟨fun K => ?_, fun Q hQ => ?_⟩
            · show mB_M_settle_198 K _ v' _ _ _ = _
              unfold mB_M_settle_198
              simp only [hs, hle, if_false, c1', hri, c2', hneg, if_true, nI_1]
              exact r3 K
            · show mBq_M_settle_198 Q _ v' _ _ _
              unfold mBq_M_settle_198
              simp only [hs, hle, c1', hri, c2', hneg, hin, nI_1, not_false_eq_true, not_true_eq_false, true_implies, false_implies, true_and, and_true]
              exact r4 Q hQ
          | some j =>
            obtain ⟨p1, p2, p3, p4⟩ := dj_pk_some hp
            have hlj : lvI (some j) = nI j := rfl
            have hneg : ¬ nI j < 0 := nI_pos (by omega)
            have hinj : vp_in (nI j) 24 := vp_in_nI (by omega) (by decide)
            have hrj : s4_ra v' 13 (nI j) = nI (e j) := by rw [s4_ra_n (by omega), (hA.1 j (by omega)).1, eI_pos (by omega)]
            have hcmp : nI (e j) ≤ eI (e i) ↔ e j ≤ e i := by rw [eI_pos c2]; exact nI_leI (by omega) (by omega)
            by_cases c3 : e j ≤ e i
            · have c3' := hcmp.mpr c3
              obtain ⟨r3, r4⟩ := key (some j) (by rw [hpk, hp, if_neg (fun z => by have : e i < e j := z.2; omega)])
              rw [hlj] at r3 r4
              refine ⟨fun K => ?_, fun Q hQ => ?_⟩
              · show mB_M_settle_198 K _ v' _ _ _ = _
                unfold mB_M_settle_198
                simp only [hs, hle, if_false, c1', hri, c2', hlj, hneg, hrj, c3', if_true, nI_1]
                exact r3 K
              · show mBq_M_settle_198 Q _ v' _ _ _
                unfold mBq_M_settle_198
                simp only [hs, hle, c1', hri, c2', hlj, hneg, hrj, c3', hin, hinj, nI_1, not_false_eq_true, not_true_eq_false, true_implies, false_implies, true_and, and_true]
                exact r4 Q hQ
            · have c3' : ¬ nI (e j) ≤ eI (e i) := fun z => c3 (hcmp.mp z)
              obtain ⟨r3, r4⟩ := key (some i) (by rw [hpk, hp, if_pos ⟨c1, by show e i < e j; omega⟩])
              refine ⟨fun K => ?_, fun Q hQ => ?_⟩
              · show mB_M_settle_198 K _ v' _ _ _ = _
                unfold mB_M_settle_198
                simp only [hs, hle, if_false, c1', hri, c2', hlj, hneg, hrj, c3', if_true, nI_1]
                exact r3 K
              · show mBq_M_settle_198 Q _ v' _ _ _
                unfold mBq_M_settle_198
                simp only [hs, hle, c1', hri, c2', hlj, hneg, hrj, c3', hin, hinj, nI_1, not_false_eq_true, not_true_eq_false, true_implies, false_implies, true_and, and_true]
                exact r4 Q hQ
      · have c1' : ¬ lg_cmp ((mask >>> ((nI i).toInt64 &&& 63)) &&& 1) 0 = 0 := fun z => c1 (hbit.mp z)
        obtain ⟨r3, r4⟩ := key (dj_pk 63244800 e s i) (by rw [hpk, if_neg (fun z => c1 z.1)])
        refine ⟨fun K => ?_, fun Q hQ => ?_⟩
        · show mB_M_settle_198 K _ v' _ _ _ = _
          unfold mB_M_settle_198
          simp only [hs, hle, if_false, c1', nI_1]
          exact r3 K
        · show mBq_M_settle_198 Q _ v' _ _ _
          unfold mBq_M_settle_198
          simp only [hs, hle, c1', nI_1, not_false_eq_true, true_implies, false_implies, true_and, and_true]
          exact r4 Q hQ
theorem fm_while (h0 : RelN n k d w u v) {st t0 : Nat} : ∀ (m r : Nat) (x : dj_X) (v' : S4) (mask : Int64), x.2.2.2 + r = 2 * k → r < m → dj_I (2 * k) 63244800 st t0 x → (x.2.1 st = true ∨ dj_pk 63244800 x.1 x.2.1 (2 * k) = some st) → MK mask x.2.1 → RelN n k d w u v' → MA v v' st x.1 →
    ∃ v2 : S4, RelN n k d w u v2 ∧ MA v v2 st (dj_it (2 * k) 63244800 (EV v k) r x).1 ∧ mL_M_settle_40 m v' mask (lvI (dj_pk 63244800 x.1 x.2.1 (2 * k))) = v2 ∧ mLq_M_settle_40 m v' mask (lvI (dj_pk 63244800 x.1 x.2.1 (2 * k))) := by
  have hE := EV_good (RelN_C h0)
  intro m
  induction m with
  | zero => intro r x v' mask h1 h2; omega
  | succ m ih =>
    intro r x v' mask h1 h2 hI hst hK hR hA
    have k12 := hR.2.2.1.1
    show ∃ v2 : S4, RelN n k d w u v2 ∧ MA v v2 st (dj_it (2 * k) 63244800 (EV v k) r x).1 ∧ mB_M_settle_40 (mL_M_settle_40 m) v' mask (lvI (dj_pk 63244800 x.1 x.2.1 (2 * k))) = v2 ∧ mBq_M_settle_40 (mLq_M_settle_40 m) v' mask (lvI (dj_pk 63244800 x.1 x.2.1 (2 * k)))
    unfold mB_M_settle_40 mBq_M_settle_40
    cases hp : dj_pk 63244800 x.1 x.2.1 (2 * k) with
    | none =>
      have hneg : lvI none < 0 := by decide
      have hs : dj_st (2 * k) 63244800 (EV v k) x = none := by unfold dj_st; rw [hp]
      simp only [hneg, if_true, not_true_eq_false, false_implies]
      refine ⟨v', hR, ?_, rfl, trivial⟩
      have : dj_it (2 * k) 63244800 (EV v k) r x = x := by
        cases r with
        | zero => rfl
        | succ r => unfold dj_it; rw [hs]
      rw [this]
      exact hA
    | some a =>
      obtain ⟨p1, p2, p3, p4⟩ := dj_pk_some hp
      have hs : dj_st (2 * k) 63244800 (EV v k) x = some (dj_rk (EV v k) x.1 a (2 * k), va_up x.2.1 a true, va_up x.2.2.1 x.2.2.2 a, x.2.2.2 + 1) := by unfold dj_st; rw [hp]
      have hI' := dj_step hE hI hs
      have hc := dj_cnt hI'
      have hc' : x.2.2.2 + 1 ≤ 2 * k := hc
      have hla : lvI (some a) = nI a := rfl
      have hneg : ¬ nI a < 0 := nI_pos (by omega)
      simp only [hla, hneg, if_false, not_false_eq_true, true_implies]
      cases r with
      | zero => omega
      | succ r =>
        have hK' : MK (mask ||| ((1 : Int64) <<< ((nI a).toInt64 &&& 63))) (va_up x.2.1 a true) := fun q hq => by
          rw [mk_set (by omega) (by omega)]
          unfold va_up
          by_cases hqa : q = a
          · rw [if_pos hqa, if_pos hqa]
          · rw [if_neg hqa, if_neg hqa]; exact hK q hq
        have hset : ∀ q, va_up x.2.1 a true q = true → x.1 q ≤ x.1 a := fun q hq => by
          unfold va_up at hq
          by_cases hqa : q = a
          · rw [hqa]; exact Nat.le_refl _
          · rw [if_neg hqa] at hq; exact hI.2.2.1 q a hq p2 p1
        have hst' : va_up x.2.1 a true st = true := by
          unfold va_up
          by_cases hsa : st = a
          · rw [if_pos hsa]
          · rw [if_neg hsa]
            rcases hst with z | z
            · exact z
            · rw [hp] at z; exact absurd (Option.some.inj z).symm hsa
        obtain ⟨v1, q1, q2, q3, q4⟩ := fm_relax h0 p1 hI.1 p3 hset hst' hK' 64 0 v' (by omega) (by omega) hR (by rw [rk_0]; exact hA)
        obtain ⟨s3, s4⟩ := fm_pick q1 hI'.1 hK' q2 64 0 (by omega) (by omega)
        obtain ⟨v2, r1, r2, r3, r4⟩ := ih r (dj_rk (EV v k) x.1 a (2 * k), va_up x.2.1 a true, va_up x.2.2.1 x.2.2.2 a, x.2.2.2 + 1) v1 (mask ||| ((1 : Int64) <<< ((nI a).toInt64 &&& 63))) (by show x.2.2.2 + 1 + r = 2 * k; omega) (by omega) hI' (Or.inl hst') hK' q1 q2
        refine ⟨v2, r1, ?_, ?_, ?_⟩
        · unfold dj_it
          rw [hs]
          exact r2
        · have e1 := q3 (mL_M_settle_40 m)
          rw [nI_0] at e1
          rw [e1]
          exact (s3 (mL_M_settle_40 m)).trans r3
        · exact q4 (mLq_M_settle_40 m) (s4 (mLq_M_settle_40 m) r4)
theorem pk_start {st t0 : Nat} (hst : st < 2 * k) (ht : t0 < 63244800) : dj_pk 63244800 (dj_x0 63244800 st t0).1 (dj_x0 63244800 st t0).2.1 (2 * k) = some st := by
  cases hp : dj_pk 63244800 (dj_x0 63244800 st t0).1 (dj_x0 63244800 st t0).2.1 (2 * k) with
  | none =>
    have := dj_pk_none hp st hst rfl
    change 63244800 ≤ va_up (fun _ => 63244800) st t0 st at this
    unfold va_up at this
    rw [if_pos rfl] at this
    omega
  | some a =>
    obtain ⟨p1, p2, p3, p4⟩ := dj_pk_some hp
    change va_up (fun _ => 63244800) st t0 a < 63244800 at p3
    unfold va_up at p3
    by_cases h : a = st
    · rw [h]
    · rw [if_neg h] at p3; exact absurd p3 (Nat.lt_irrefl _)
theorem fm_init (h0 : RelN n k d w u v) {st t0 : Nat} (hst : st < 2 * k) (ht : t0 < 63244800) : ∀ (m i : Nat) (v' : S4), i ≤ 24 → 24 < i + m → RelN n k d w u v' → s4_i v' 3 = s4_i v 3 → (∀ q, q < i → s4_a v' 13 q = -1 ∧ s4_a v' 14 q = -1) →
    ∃ v2 : S4, RelN n k d w u v2 ∧ MA v v2 st (dj_it (2 * k) 63244800 (EV v k) (2 * k) (dj_x0 63244800 st t0)).1 ∧ mL_M_settle_2 m v' (nI st) (nI t0) (nI i) = v2 ∧ mLq_M_settle_2 m v' (nI st) (nI t0) (nI i) := by
  intro m
  induction m with
  | zero => intro i v' h1 h2; omega
  | succ m ih =>
    intro i v' h1 h2 hR h3 hA
    have k12 := hR.2.2.1.1
    show ∃ v2 : S4, RelN n k d w u v2 ∧ MA v v2 st (dj_it (2 * k) 63244800 (EV v k) (2 * k) (dj_x0 63244800 st t0)).1 ∧ mB_M_settle_2 (mL_M_settle_2 m) v' (nI st) (nI t0) (nI i) = v2 ∧ mBq_M_settle_2 (mLq_M_settle_2 m) v' (nI st) (nI t0) (nI i)
    unfold mB_M_settle_2 mBq_M_settle_2
    by_cases hie : i = 24
    · subst hie
      have hle : (24 : Int32) ≤ nI 24 := nI_le (a := 24) (Nat.le_refl _) (by decide)
      have hins : vp_in (nI st) 24 := vp_in_nI (by omega) (by decide)
      simp only [hle, if_true, not_true_eq_false, false_implies, and_true, true_implies, hins, true_and]
      have hMA : MA0 v (s4_wa v' 13 (nI st) (nI t0)) st (dj_x0 63244800 st t0).1 := fun q hq => by
        rw [s4_wa_n (by omega)]
        show upd (s4_a v' 13) st (nI t0) q = eI (va_up (fun _ => 63244800) st t0 q) ∧ s4_a v' 14 q = (if q = st ∨ va_up (fun _ => 63244800) st t0 q = 63244800 then -1 else nI (va_up (fun _ => 63244800) st t0 q - secN v q)) ∧ (q = st ∨ va_up (fun _ => 63244800) st t0 q = 63244800 ∨ secN v q ≤ va_up (fun _ => 63244800) st t0 q)
        unfold upd va_up
        by_cases hqs : q = st
        · rw [if_pos hqs, if_pos hqs, eI_pos (by omega), if_pos (Or.inl hqs)]
          exact ⟨rfl, (hA q hq).2, Or.inl hqs⟩
        · rw [if_neg hqs, if_neg hqs, if_pos (Or.inr rfl)]
          exact ⟨(hA q hq).1, (hA q hq).2, Or.inr (Or.inl rfl)⟩
      have hK : MK 0 (dj_x0 63244800 st t0).2.1 := fun q _ => by
        show ((0 : Int64)).toBitVec.getLsbD q = false
        simp
      have := fm_while h0 64 (2 * k) (dj_x0 63244800 st t0) (s4_wa v' 13 (nI st) (nI t0)) 0 (by show 0 + 2 * k = 2 * k; omega) (by omega) (dj_I0 hst ht) (Or.inr (pk_start hst ht)) hK hR ⟨hMA, h3⟩
      rw [pk_start hst ht] at this
      exact this
    · have hle : ¬ (24 : Int32) ≤ nI i := nI_ge (b := 24) (by omega) (by decide)
      have hin : vp_in (nI i) 24 := vp_in_nI (by omega) (by decide)
      simp only [hle, if_false, not_false_eq_true, false_implies, true_implies, true_and, hin, nI_1]
      refine ih (i + 1) (s4_wa (s4_wa v' 13 (nI i) (-1)) 14 (nI i) (-1)) (by omega) (by omega) hR h3 (fun q hq => ?_)
      rw [s4_wa_n (show i < 2 ^ 31 by omega), s4_wa_n (show i < 2 ^ 31 by omega)]
      show upd (s4_a v' 13) i (-1) q = -1 ∧ upd (s4_a v' 14) i (-1) q = -1
      unfold upd
      by_cases hqi : q = i
      · rw [if_pos hqi, if_pos hqi]; exact ⟨rfl, rfl⟩
      · rw [if_neg hqi, if_neg hqi]; exact hA q (by omega)
end MS2
