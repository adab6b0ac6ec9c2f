/-! PURE: least, the class's side -/
def bgO (v : S4) (a b t : Nat) : Option Nat := if mp_M_begun3 v (nI a) (nI t) (nI b) = -1 then none else some (mp_M_begun3 v (nI a) (nI t) (nI b)).toNatClampNeg
def EV (v : S4) (k a b t : Nat) : Option Nat := if a < 2 * k ∧ b < 2 * k ∧ t < 63244800 ∧ gG v a b = true then (bgO v a b t).map (fun x => x + secN v b) else none
theorem bgO_eq {v : S4} {a b t : Nat} {o : Option Nat} (h : mp_M_begun3 v (nI a) (nI t) (nI b) = lvI o) (ho : ∀ x, o = some x → x < 2 ^ 31) : bgO v a b t = o := by
  unfold bgO
  rw [h]
  cases o with
  | none => exact if_pos rfl
  | some x =>
    have hx := ho x rfl
    show (if nI x = -1 then none else some (nI x).toNatClampNeg) = some x
    rw [if_neg (nI_ne_m1 hx), nI_clamp hx]
theorem EV_good {n k d : Nat} {u v : S4} (h : RelC n k d u v) : dj_good 63244800 (EV v k) := by
  intro a b t r hr
  unfold EV at hr
  by_cases hc : a < 2 * k ∧ b < 2 * k ∧ t < 63244800 ∧ gG v a b = true
  · rw [if_pos hc] at hr
    obtain ⟨o, -, b2, b3, -, -, b6, b7, -⟩ := beg_eq h hc.1 hc.2.1 (show t < 90000000 by have := hc.2.2.1; omega)
    rw [bgO_eq b2 (fun x hx => by have := b3 x hx; omega)] at hr
    cases o with
    | none => cases hr
    | some x =>
      have hx := b3 x rfl
      have : x + secN v b = r := Option.some.inj hr
      constructor <;> omega
  · rw [if_neg hc] at hr; cases hr
theorem xE {n k d : Nat} {u v : S4} (h : RelC n k d u v) {a b t : Nat} (ha : a < 2 * k) (hb : b < 2 * k) (ht : t < 63244800) : xq_Net_endBehind u (nI a) (nI b) (nI t) ∧ xp_Net_endBehind u (nI a) (nI b) (nI t) = lvI (EV v k a b t) := by
  obtain ⟨o, b1, b2, b3, b4, b5, -⟩ := beg_eq h ha hb (show t < 90000000 by omega)
  refine ⟨b4, ?_⟩
  rw [b5]
  unfold EV
  rw [bgO_eq b2 (fun x hx => by have := b3 x hx; omega)]
  by_cases hg : gG v a b = true
  · rw [if_pos hg, if_pos ⟨ha, hb, ht, hg⟩]
  · rw [if_neg hg, if_neg (fun z => hg z.2.2.2)]
    rfl
def XA (u : S4) (x : dj_X) : Prop := (∀ q, q < 24 → s4_a u 10 q = nI (x.1 q)) ∧ (∀ q, q < 24 → s4_a u 11 q = if x.2.1 q = true then 1 else 0) ∧ (∀ i, i < x.2.2.2 → s4_a u 13 i = nI (x.2.2.1 i)) ∧ s4_i u 2 = nI x.2.2.2 ∧ ∀ q, q < 24 → s4_a u 12 q = 0
section LX
variable {n k d w : Nat} {v : S4}
theorem fx_forget : ∀ (m i : Nat) (u : S4), i ≤ 24 → 24 < i + m → RelN n k d w u v → (∀ q, q < i → s4_a u 10 q = nI 63244800 ∧ s4_a u 11 q = 0 ∧ s4_a u 12 q = 0) →
    ∃ u' : S4, RelN n k d w u' v ∧ (∀ q, q < 24 → s4_a u' 10 q = nI 63244800 ∧ s4_a u' 11 q = 0 ∧ s4_a u' 12 q = 0) ∧ s4_i u' 2 = 0 ∧ xL_Search_forget_2 m u (nI i) = u' ∧ xLq_Search_forget_2 m u (nI i) := by
  intro m
  induction m with
  | zero => intro i u h1 h2; omega
  | succ m ih =>
    intro i u h1 h2 hR hA
    show ∃ u' : S4, RelN n k d w u' v ∧ (∀ q, q < 24 → s4_a u' 10 q = nI 63244800 ∧ s4_a u' 11 q = 0 ∧ s4_a u' 12 q = 0) ∧ s4_i u' 2 = 0 ∧ xB_Search_forget_2 (xL_Search_forget_2 m) u (nI i) = u' ∧ xBq_Search_forget_2 (xLq_Search_forget_2 m) u (nI i)
    unfold xB_Search_forget_2 xBq_Search_forget_2
    by_cases hie : i = 24
    · subst hie
      have hle : (24 : Int32) ≤ nI 24 := nI_le (a := 24) (Nat.le_refl _) (by decide)
      simp only [hle, if_true, not_true_eq_false, false_implies]
      exact ⟨s4_si u 2 0, hR, hA, rfl, rfl, trivial⟩
    · have hle : ¬ (24 : Int32) ≤ nI i := nI_ge (b := 24) (by omega) (by decide)
      have hin : vp_in (nI i) 24 := vp_in_nI (by omega) (by decide)
      simp only [hle, if_false, not_false_eq_true, true_implies, hin, true_and, nI_1]
      refine ih (i + 1) (s4_wz (s4_wz (s4_wa u 10 (nI i) 63244800) 11 (nI i) 0) 12 (nI i) 0) (by omega) (by omega) hR (fun q hq => ?_)
      rw [s4_wz_n (by omega) (Or.inl rfl), s4_wz_n (by omega) (Or.inl rfl), s4_wa_n (by omega)]
      show upd (s4_a u 10) i 63244800 q = nI 63244800 ∧ upd (s4_a u 11) i 0 q = 0 ∧ upd (s4_a u 12) i 0 q = 0
      unfold upd
      by_cases hqi : q = i
      · rw [if_pos hqi, if_pos hqi, if_pos hqi]; exact ⟨rfl, rfl, rfl⟩
      · rw [if_neg hqi, if_neg hqi, if_neg hqi]; exact hA q (by omega)
def pkE (e : Nat → Nat) (o : Option Nat) : Nat := match o with
  | none => 63244800
  | some j => e j
theorem fx_soon {u : S4} {x : dj_X} (hA : XA u x) (hz : ∀ q, x.1 q ≤ 63244800) {N : Nat} (hN : N ≤ 24) : ∀ (m i : Nat), i ≤ N → N < i + m →
    xL_Search_soonestUnsettled_8 u m (nI N) (lvI (dj_pk 63244800 x.1 x.2.1 i)) (nI (pkE x.1 (dj_pk 63244800 x.1 x.2.1 i))) (nI i) = lvI (dj_pk 63244800 x.1 x.2.1 N) ∧ xLq_Search_soonestUnsettled_8 u m (nI N) (lvI (dj_pk 63244800 x.1 x.2.1 i)) (nI (pkE x.1 (dj_pk 63244800 x.1 x.2.1 i))) (nI i) := by
  intro m
  induction m with
  | zero => intro i h1 h2; omega
  | succ m ih =>
    intro i h1 h2
    show xB_Search_soonestUnsettled_8 u (xL_Search_soonestUnsettled_8 u m) _ _ _ _ = _ ∧ xBq_Search_soonestUnsettled_8 u (xLq_Search_soonestUnsettled_8 u m) _ _ _ _
    unfold xB_Search_soonestUnsettled_8 xBq_Search_soonestUnsettled_8
    by_cases hie : i = N
    · subst hie
      have hle : nI i ≤ nI i := nI_le (Nat.le_refl _) (by omega)
      simp only [hle, if_true, not_true_eq_false, false_implies, and_true]
    · have hi : i < N := by omega
      have hle : ¬ nI N ≤ nI i := nI_ge hi (by omega)
      have hin : vp_in (nI i) 24 := vp_in_nI (by omega) (by decide)
      have hpE : pkE x.1 (dj_pk 63244800 x.1 x.2.1 i) ≤ 63244800 := by
        cases hp : dj_pk 63244800 x.1 x.2.1 i with
        | none => exact Nat.le_refl _
        | some j => exact hz j
      have hzi := hz i
      have hcmp : nI (pkE x.1 (dj_pk 63244800 x.1 x.2.1 i)) ≤ nI (x.1 i) ↔ pkE x.1 (dj_pk 63244800 x.1 x.2.1 i) ≤ x.1 i := nI_leI (by omega) (by omega)
      have key : ∀ o : Option Nat, dj_pk 63244800 x.1 x.2.1 (i + 1) = o → xL_Search_soonestUnsettled_8 u m (nI N) (lvI o) (nI (pkE x.1 o)) (nI (i + 1)) = lvI (dj_pk 63244800 x.1 x.2.1 N) ∧ xLq_Search_soonestUnsettled_8 u m (nI N) (lvI o) (nI (pkE x.1 o)) (nI (i + 1)) := by
        intro o ho
        rw [← ho]
        exact ih (i + 1) (by omega) (by omega)
      simp only [hle, if_false, not_false_eq_true, true_implies, s4_ra_n (show i < 2 ^ 31 by omega), hA.1 i (by omega), hA.2.1 i (by omega), hin, true_and, nI_1, hcmp]
      have hpk : dj_pk 63244800 x.1 x.2.1 (i + 1) = (if x.2.1 i = false ∧ x.1 i < pkE x.1 (dj_pk 63244800 x.1 x.2.1 i) then some i else dj_pk 63244800 x.1 x.2.1 i) := by
        show (match dj_pk 63244800 x.1 x.2.1 i with | none => _ | some j => _) = _
        cases hp : dj_pk 63244800 x.1 x.2.1 i with
        | none => rfl
        | some j => rfl
      cases hs : x.2.1 i with
      | true =>
        simp only [if_true, one_ne, if_false, not_false_eq_true, false_implies, true_implies, true_and]
        exact key _ (by rw [hpk, if_neg (fun z => by rw [hs] at z; exact Bool.noConfusion z.1)])
      | false =>
        simp only [Bool.false_eq_true, if_false, if_true, true_implies, not_true_eq_false, false_implies, and_true]
        by_cases hc : pkE x.1 (dj_pk 63244800 x.1 x.2.1 i) ≤ x.1 i
        · simp only [hc, if_true, true_implies, not_true_eq_false, false_implies, and_true]
          exact key _ (by rw [hpk, if_neg (fun z => by omega)])
        · simp only [hc, if_false, false_implies, not_false_eq_true, true_implies, true_and]
          exact key (some i) (by rw [hpk, if_pos ⟨hs, by omega⟩])
theorem rk_succ {E : Nat → Nat → Nat → Option Nat} {e : Nat → Nat} {a i : Nat} : dj_rk E e a (i + 1) = va_up (dj_rk E e a i) i (dj_v E e a i) := by
  funext b
  unfold dj_rk va_up
  by_cases hb : b = i
  · subst hb
    rw [if_pos (by omega), if_pos rfl]
  · rw [if_neg hb]
    show (if b < i + 1 then dj_v E e a b else e b) = (if b < i then dj_v E e a b else e b)
    by_cases h2 : b < i
    · rw [if_pos h2, if_pos (by omega)]
    · rw [if_neg h2, if_neg (by omega)]
theorem rk_0 {E : Nat → Nat → Nat → Option Nat} {e : Nat → Nat} {a : Nat} : dj_rk E e a 0 = e := by
  funext b
  unfold dj_rk
  rw [if_neg (by omega)]
theorem va_id {f : Nat → Nat} {i : Nat} {y : Nat} (h : f i = y) : va_up f i y = f := by
  funext b
  unfold va_up
  by_cases hb : b = i
  · rw [if_pos hb, hb, h]
  · rw [if_neg hb]
theorem fx_goOn {a : Nat} (ha : a < 2 * k) {e : Nat → Nat} {s : Nat → Bool} {o : Nat → Nat} {c : Nat} (hz : ∀ q, e q ≤ 63244800) (hea : e a < 63244800) : ∀ (m i : Nat) (u : S4), i ≤ 2 * k → 2 * k < i + m → RelN n k d w u v → XA u (dj_rk (EV v k) e a i, s, o, c) →
    ∃ u' : S4, RelN n k d w u' v ∧ XA u' (dj_rk (EV v k) e a (2 * k), s, o, c) ∧ xL_Search_goOnFrom_2 m u (nI a) (nI i) = u' ∧ xLq_Search_goOnFrom_2 m u (nI a) (nI i) := by
  intro m
  induction m with
  | zero => intro i u h1 h2; omega
  | succ m ih =>
    intro i u h1 h2 hR hA
    have k12 := hR.2.2.1.1
    have hs : xp_Streets_sides u = nI (2 * k) := sides_n hR.2.2.1.2.1
    have hE := EV_good (RelN_C hR)
    show ∃ u' : S4, RelN n k d w u' v ∧ XA u' (dj_rk (EV v k) e a (2 * k), s, o, c) ∧ xB_Search_goOnFrom_2 (xL_Search_goOnFrom_2 m) u (nI a) (nI i) = u' ∧ xBq_Search_goOnFrom_2 (xLq_Search_goOnFrom_2 m) u (nI a) (nI i)
    unfold xB_Search_goOnFrom_2 xBq_Search_goOnFrom_2
    simp only [hs, nI_1]
    by_cases hie : i = 2 * k
    · subst hie
      have hle : nI (2 * k) ≤ nI (2 * k) := nI_le (Nat.le_refl _) (by omega)
      simp only [hle, if_true, not_true_eq_false, false_implies]
      exact ⟨u, hR, hA, rfl, trivial⟩
    · have hi : i < 2 * k := by omega
      have hle : ¬ nI (2 * k) ≤ nI i := nI_ge hi (by omega)
      have hin : vp_in (nI i) 24 := vp_in_nI (by omega) (by decide)
      have hina : vp_in (nI a) 24 := vp_in_nI (by omega) (by decide)
      have hra : s4_ra u 10 (nI a) = nI (e a) := by
        rw [s4_ra_n (by omega), hA.1 a (by omega)]
        show nI (dj_rk (EV v k) e a i a) = nI (e a)
        rw [dj_rk_old hE (Nat.le_refl _)]
      have hri : s4_ra u 10 (nI i) = nI (e i) := by
        rw [s4_ra_n (by omega), hA.1 i (by omega)]
        show nI (dj_rk (EV v k) e a i i) = nI (e i)
        unfold dj_rk
        rw [if_neg (by omega)]
      obtain ⟨x1, x2⟩ := xE (RelN_C hR) ha hi hea
      have hzi := hz i
      simp only [hle, if_false, not_false_eq_true, true_implies, hra, hri, x1, x2, hin, hina, true_and]
      have keep : dj_v (EV v k) e a i = e i → XA u (dj_rk (EV v k) e a (i + 1), s, o, c) := fun hv => by
        rw [rk_succ, hv, va_id (by unfold dj_rk; rw [if_neg (by omega)])]
        exact hA
      cases hx : EV v k a i (e a) with
      | none =>
        have hv : dj_v (EV v k) e a i = e i := by unfold dj_v; rw [hx]
        have hm1 : lvI none = -1 := rfl
        simp only [hm1, if_true, not_true_eq_false, false_implies, and_true, true_implies]
        exact ih (i + 1) u (by omega) (by omega) hR (keep hv)
      | some r =>
        have hr := hE _ _ _ _ hx
        have hne : ¬ lvI (some r) = -1 := nI_ne_m1 (by omega)
        have hcmp : nI (e i) ≤ lvI (some r) ↔ e i ≤ r := nI_leI (by omega) (by omega)
        simp only [hne, if_false, not_false_eq_true, false_implies, true_implies, true_and, hcmp]
        by_cases hc : e i ≤ r
        · have hv : dj_v (EV v k) e a i = e i := by unfold dj_v; rw [hx]; exact if_neg (by omega)
          simp only [hc, if_true, not_true_eq_false, false_implies, and_true, true_implies]
          exact ih (i + 1) u (by omega) (by omega) hR (keep hv)
        · have hv : dj_v (EV v k) e a i = r := by unfold dj_v; rw [hx]; exact if_pos (by omega)
          simp only [hc, if_false, not_false_eq_true, false_implies, true_and, true_implies]
          refine ih (i + 1) (s4_wa u 10 (nI i) (nI r)) (by omega) (by omega) hR ⟨fun q hq => ?_, hA.2.1, hA.2.2.1, hA.2.2.2.1, hA.2.2.2.2⟩
          rw [s4_wa_n (by omega)]
          show upd (s4_a u 10) i (nI r) q = nI (dj_rk (EV v k) e a (i + 1) q)
          rw [rk_succ, hv]
          unfold upd va_up
          by_cases hqi : q = i
          · rw [if_pos hqi, if_pos hqi]
          · rw [if_neg hqi, if_neg hqi]; exact hA.1 q hq
theorem fx_explore {st t0 : Nat} : ∀ (m r : Nat) (u : S4) (x : dj_X), x.2.2.2 ≤ 2 * k → x.2.2.2 + r = 2 * k → r < m → dj_I (2 * k) 63244800 st t0 x → RelN n k d w u v → XA u x →
    ∃ u' : S4, RelN n k d w u' v ∧ XA u' (dj_it (2 * k) 63244800 (EV v k) r x) ∧ xL_Search_explore_23 m u (nI (2 * k)) (nI x.2.2.2) = u' ∧ xLq_Search_explore_23 m u (nI (2 * k)) (nI x.2.2.2) := by
  intro m
  induction m with
  | zero => intro r u x h1 h2 h3; omega
  | succ m ih =>
    intro r u x h1 h2 h3 hI hR hA
    have k12 := hR.2.2.1.1
    have hE := EV_good (RelN_C hR)
    show ∃ u' : S4, RelN n k d w u' v ∧ XA u' (dj_it (2 * k) 63244800 (EV v k) r x) ∧ xB_Search_explore_23 (xL_Search_explore_23 m) u (nI (2 * k)) (nI x.2.2.2) = u' ∧ xBq_Search_explore_23 (xLq_Search_explore_23 m) u (nI (2 * k)) (nI x.2.2.2)
    unfold xB_Search_explore_23 xBq_Search_explore_23
    have hle0 : nI (2 * k) ≤ nI x.2.2.2 ↔ 2 * k ≤ x.2.2.2 := nI_leI (by omega) (by omega)
    simp only [hle0, nI_1]
    cases r with
    | zero =>
      have : 2 * k ≤ x.2.2.2 := by omega
      simp only [this, if_true, not_true_eq_false, false_implies]
      exact ⟨u, hR, hA, rfl, trivial⟩
    | succ r =>
      have hlt : ¬ 2 * k ≤ x.2.2.2 := by omega
      obtain ⟨s1, s2⟩ := fx_soon hA hI.1 (N := 2 * k) (by omega) 64 0 (by omega) (by omega)
      have e1 : xp_Search_soonestUnsettled u (nI (2 * k)) = lvI (dj_pk 63244800 x.1 x.2.1 (2 * k)) := s1
      have e2 : xq_Search_soonestUnsettled u (nI (2 * k)) := s2
      simp only [hlt, if_false, not_false_eq_true, true_implies, e1, e2, true_and]
      cases hp : dj_pk 63244800 x.1 x.2.1 (2 * k) with
      | none =>
        have hm1 : lvI none = -1 := rfl
        have hst : dj_st (2 * k) 63244800 (EV v k) x = none := by unfold dj_st; rw [hp]
        simp only [hm1, if_true, not_true_eq_false, false_implies]
        refine ⟨u, hR, ?_, rfl, trivial⟩
        unfold dj_it
        rw [hst]
        exact hA
      | some a =>
        obtain ⟨p1, p2, p3, p4⟩ := dj_pk_some hp
        have hne : ¬ nI a = -1 := nI_ne_m1 (by omega)
        have hla : lvI (some a) = nI a := rfl
        have hst : dj_st (2 * k) 63244800 (EV v k) x = some (dj_rk (EV v k) x.1 a (2 * k), va_up x.2.1 a true, va_up x.2.2.1 x.2.2.2 a, x.2.2.2 + 1) := by unfold dj_st; rw [hp]
        have hina : vp_in (nI a) 24 := vp_in_nI (by omega) (by decide)
        have hinc : vp_in (nI x.2.2.2) 24 := vp_in_nI (by omega) (by decide)
        simp only [hne, if_false, not_false_eq_true, true_implies, hla, hina, hinc, true_and]
        have hA1 : XA (s4_si (s4_wa (s4_wz u 11 (nI a) 1) 13 (nI x.2.2.2) (nI a)) 2 (nI (x.2.2.2 + 1))) (dj_rk (EV v k) x.1 a 0, va_up x.2.1 a true, va_up x.2.2.1 x.2.2.2 a, x.2.2.2 + 1) := by
          rw [rk_0, s4_wz_n (by omega) (Or.inr rfl), s4_wa_n (by omega)]
          refine ⟨hA.1, fun q hq => ?_, fun i hi => ?_, rfl, hA.2.2.2.2⟩
          · show upd (s4_a u 11) a 1 q = if va_up x.2.1 a true q = true then 1 else 0
            unfold upd va_up
            by_cases hqa : q = a
            · rw [if_pos hqa, if_pos hqa, if_pos rfl]
            · rw [if_neg hqa, if_neg hqa]; exact hA.2.1 q hq
          · show upd (s4_a u 13) x.2.2.2 (nI a) i = nI (va_up x.2.2.1 x.2.2.2 a i)
            unfold upd va_up
            by_cases hic : i = x.2.2.2
            · rw [if_pos hic, if_pos hic]
            · rw [if_neg hic, if_neg hic]; exact hA.2.2.1 i (by have : i < x.2.2.2 + 1 := hi; omega)
        obtain ⟨u1, q1, q2, q3, q4⟩ := fx_goOn (n := n) (d := d) (w := w) p1 hI.1 p3 64 0 _ (by omega) (by omega) (show RelN n k d w (s4_si (s4_wa (s4_wz u 11 (nI a) 1) 13 (nI x.2.2.2) (nI a)) 2 (nI (x.2.2.2 + 1))) v from hR) hA1
        have e3 : xp_Search_goOnFrom (s4_si (s4_wa (s4_wz u 11 (nI a) 1) 13 (nI x.2.2.2) (nI a)) 2 (nI (x.2.2.2 + 1))) (nI a) = u1 := q3
        have e4 : xq_Search_goOnFrom (s4_si (s4_wa (s4_wz u 11 (nI a) 1) 13 (nI x.2.2.2) (nI a)) 2 (nI (x.2.2.2 + 1))) (nI a) := q4
        simp only [e3, e4, true_and]
        obtain ⟨u', r1, r2, r3, r4⟩ := ih r u1 (dj_rk (EV v k) x.1 a (2 * k), va_up x.2.1 a true, va_up x.2.2.1 x.2.2.2 a, x.2.2.2 + 1) (by show x.2.2.2 + 1 ≤ 2 * k; omega) (by show x.2.2.2 + 1 + r = 2 * k; omega) (by omega) (dj_step hE hI hst) q1 q2
        refine ⟨u', r1, ?_, r3, r4⟩
        unfold dj_it
        rw [hst]
        exact r2
end LX
/-- what is marked in the class's row of leading sides -/
def LA (N : Nat) (u : S4) (A : Nat) (L : Nat → Prop) : Prop := ∀ q, q < N → (s4_a u A q = 1 ∧ L q) ∨ (s4_a u A q = 0 ∧ ¬ L q)
theorem LA_0 {N : Nat} {u : S4} {A : Nat} {L : Nat → Prop} (h : LA N u A L) {q : Nat} (hq : q < N) : s4_a u A q = 0 ↔ ¬ L q := by
  rcases h q hq with ⟨h1, h2⟩ | ⟨h1, h2⟩
  · rw [h1]; exact ⟨fun z => absurd z one_ne, fun z => absurd h2 z⟩
  · exact ⟨fun _ => h2, fun _ => h1⟩
theorem LA_set {N : Nat} {u : S4} {A : Nat} {L : Nat → Prop} (h : LA N u A L) {i : Nat} (hi : i < 2 ^ 31) : LA N (s4_wz u A (nI i) 1) A (fun q => q = i ∨ L q) := by
  intro q hq
  rw [s4_wz_n hi (Or.inr rfl)]
  show (va_up u.2.2.1 A (upd (s4_a u A) i 1) A q = 1 ∧ _) ∨ (va_up u.2.2.1 A (upd (s4_a u A) i 1) A q = 0 ∧ _)
  unfold va_up
  rw [if_pos rfl]
  unfold upd
  by_cases hqi : q = i
  · rw [if_pos hqi]; exact Or.inl ⟨rfl, Or.inl hqi⟩
  · rw [if_neg hqi]
    rcases h q hq with ⟨h1, h2⟩ | ⟨h1, h2⟩
    · exact Or.inl ⟨h1, Or.inr h2⟩
    · exact Or.inr ⟨h1, fun z => z.elim hqi h2⟩
theorem LA_iff {N : Nat} {u : S4} {A : Nat} {L L' : Nat → Prop} (h : LA N u A L) (hL : ∀ q, L q ↔ L' q) : LA N u A L' := fun q hq => by
  rw [← hL q]; exact h q hq
section LY
variable {n k d w : Nat} {v : S4}
/-- firstLeading: the first into that leads and is a step from a; none if there is none -/
theorem fx_first {u : S4} (hR : RelC n k d u v) {e : Nat → Nat} (he : ∀ q, q < 24 → s4_a u 10 q = nI (e q)) (hz : ∀ q, e q ≤ 63244800) {L : Nat → Prop} (hL : LA (2 * k) u 12 L) {a : Nat} (ha : a < 2 * k) (hea : e a < 63244800) : ∀ (m i : Nat), i ≤ 2 * k → 2 * k < i + m → (∀ j, j < i → ¬ (L j ∧ EV v k a j (e a) = some (e j))) →
    xLq_Search_firstLeading_2 u m (nI a) (nI i) ∧ ((xL_Search_firstLeading_2 u m (nI a) (nI i) = -1 ∧ ∀ j, j < 2 * k → ¬ (L j ∧ EV v k a j (e a) = some (e j))) ∨ ∃ b, b < 2 * k ∧ xL_Search_firstLeading_2 u m (nI a) (nI i) = nI b ∧ L b ∧ EV v k a b (e a) = some (e b) ∧ ∀ j, j < b → ¬ (L j ∧ EV v k a j (e a) = some (e j))) := by
  have k12 := hR.2.2.1.1
  have hs : xp_Streets_sides u = nI (2 * k) := sides_n hR.2.2.1.2.1
  have hE := EV_good hR
  intro m
  induction m with
  | zero => intro i h1 h2; omega
  | succ m ih =>
    intro i h1 h2 hj
    show xBq_Search_firstLeading_2 u (xLq_Search_firstLeading_2 u m) (nI a) (nI i) ∧ ((xB_Search_firstLeading_2 u (xL_Search_firstLeading_2 u m) (nI a) (nI i) = -1 ∧ _) ∨ ∃ b, b < 2 * k ∧ xB_Search_firstLeading_2 u (xL_Search_firstLeading_2 u m) (nI a) (nI i) = nI b ∧ _)
    unfold xB_Search_firstLeading_2 xBq_Search_firstLeading_2
    simp only [hs, nI_1]
    by_cases hie : i = 2 * k
    · subst hie
      have hle : nI (2 * k) ≤ nI (2 * k) := nI_le (Nat.le_refl _) (by omega)
      simp only [hle, if_true, not_true_eq_false, false_implies, true_and]
      exact Or.inl hj
    · have hi : i < 2 * k := by omega
      have hle : ¬ nI (2 * k) ≤ nI i := nI_ge hi (by omega)
      have hin : vp_in (nI i) 24 := vp_in_nI (by omega) (by decide)
      have hina : vp_in (nI a) 24 := vp_in_nI (by omega) (by decide)
      obtain ⟨x1, x2⟩ := xE hR ha hi hea
      have hsm : ∀ x, EV v k a i (e a) = some x → x < 2 ^ 31 := fun x hx => by have := hE _ _ _ _ hx; omega
      have hzi := hz i
      have hra : s4_ra u 10 (nI a) = nI (e a) := by rw [s4_ra_n (by omega), he a (by omega)]
      have hri : s4_ra u 10 (nI i) = nI (e i) := by rw [s4_ra_n (by omega), he i (by omega)]
      have hrl : s4_ra u 12 (nI i) = 0 ↔ ¬ L i := by rw [s4_ra_n (by omega)]; exact LA_0 hL hi
      simp only [hle, if_false, not_false_eq_true, true_implies, hra, hri, x1, x2, hin, hina, lvI_some hsm (show e i < 2 ^ 31 by omega), true_and]
      have next : ¬ (L i ∧ EV v k a i (e a) = some (e i)) → ∀ j, j < i + 1 → ¬ (L j ∧ EV v k a j (e a) = some (e j)) := fun z j hjs => by
        by_cases hji : j = i
        · rw [hji]; exact z
        · exact hj j (by omega)
      by_cases c1 : L i
      · have c1' : ¬ s4_ra u 12 (nI i) = 0 := fun z => hrl.mp z c1
        simp only [c1', if_false, false_implies, not_false_eq_true, true_implies, true_and]
        by_cases c2 : EV v k a i (e a) = some (e i)
        · simp only [c2, if_true, not_true_eq_false, false_implies, true_and]
          exact Or.inr ⟨i, hi, rfl, c1, c2, hj⟩
        · simp only [c2, if_false, not_false_eq_true, true_implies]
          exact ih (i + 1) (by omega) (by omega) (next (fun z => c2 z.2))
      · have c1' := hrl.mpr c1
        simp only [c1', if_true, true_implies, not_true_eq_false, false_implies, and_true]
        exact ih (i + 1) (by omega) (by omega) (next (fun z => c1 z.1))
theorem fx_mark {st t0 : Nat} {x : dj_X} {g : Nat} (hE : dj_good 63244800 (EV v k)) (hI : dj_I (2 * k) 63244800 st t0 x) (hn : dj_st (2 * k) 63244800 (EV v k) x = none) : ∀ (m i : Nat) (u : S4), i ≤ x.2.2.2 → i < m → RelN n k d w u v → (∀ q, q < 24 → s4_a u 10 q = nI (x.1 q)) → (∀ j, j < x.2.2.2 → s4_a u 13 j = nI (x.2.2.1 j)) → LA (2 * k) u 12 (ld_i (2 * k) (EV v k) x.1 g x.2.2.1 x.2.2.2 i) →
    ∃ u' : S4, RelN n k d w u' v ∧ (∀ q, q < 24 → s4_a u' 10 q = nI (x.1 q)) ∧ LA (2 * k) u' 12 (ld_i (2 * k) (EV v k) x.1 g x.2.2.1 x.2.2.2 0) ∧ xL_Search_markLeading_14 m u (nI i - 1) = u' ∧ xLq_Search_markLeading_14 m u (nI i - 1) := by
  intro m
  induction m with
  | zero => intro i u h1 h2; omega
  | succ m ih =>
    intro i u h1 h2 hR he ho hL
    have k12 := hR.2.2.1.1
    have hcN := dj_cnt hI
    show ∃ u' : S4, RelN n k d w u' v ∧ (∀ q, q < 24 → s4_a u' 10 q = nI (x.1 q)) ∧ LA (2 * k) u' 12 (ld_i (2 * k) (EV v k) x.1 g x.2.2.1 x.2.2.2 0) ∧ xB_Search_markLeading_14 (xL_Search_markLeading_14 m) u (nI i - 1) = u' ∧ xBq_Search_markLeading_14 (xLq_Search_markLeading_14 m) u (nI i - 1)
    unfold xB_Search_markLeading_14 xBq_Search_markLeading_14
    cases i with
    | zero =>
      have hneg : nI 0 - 1 < 0 := by decide
      simp only [hneg, if_true, not_true_eq_false, false_implies]
      exact ⟨u, hR, he, hL, rfl, trivial⟩
    | succ i =>
      rw [nI_pred]
      have hneg : ¬ nI i < 0 := nI_pos (by omega)
      have hin : vp_in (nI i) 24 := vp_in_nI (by omega) (by decide)
      have hoi : s4_ra u 13 (nI i) = nI (x.2.2.1 i) := by rw [s4_ra_n (by omega), ho i (by omega)]
      have hset := hI.2.2.2.1 i (by omega)
      have hlt := hI.2.1 _ hset
      have hino : vp_in (nI (x.2.2.1 i)) 24 := vp_in_nI (by omega) (by decide)
      obtain ⟨f1, f2⟩ := fx_first (RelN_C hR) he hI.1 hL (a := x.2.2.1 i) hlt.1 hlt.2 64 0 (by omega) (by omega) (fun j hj => absurd hj (Nat.not_lt_zero _))
      have e2 : xq_Search_firstLeading u (nI (x.2.2.1 i)) := f1
      have em : nI i + -1 = nI i - 1 := by
        have : ∀ y : Int32, y + -1 = y - 1 := fun y => by rw [Int32.sub_eq_add_neg]
        exact this _
      simp only [hneg, if_false, not_false_eq_true, true_implies, hoi, hin, hino, e2, true_and, em]
      have no_of : (∀ j, j < 2 * k → ¬ (ld_i (2 * k) (EV v k) x.1 g x.2.2.1 x.2.2.2 (i + 1) j ∧ EV v k (x.2.2.1 i) j (x.1 (x.2.2.1 i)) = some (x.1 j))) → ∀ q, ld_i (2 * k) (EV v k) x.1 g x.2.2.1 x.2.2.2 (i + 1) q ↔ ld_i (2 * k) (EV v k) x.1 g x.2.2.1 x.2.2.2 i q := by
        intro hno q
        by_cases hld : ld (2 * k) (EV v k) x.1 g (x.2.2.1 i)
        · rcases ld_i_up hE hI hn (by omega) hld with hg | ⟨b, b1, b2, b3⟩
          · rw [ld_i_pos (by omega) hld q]
            exact ⟨fun z => Or.inr z, fun z => z.elim (fun y => Or.inl (y.trans hg)) id⟩
          · exact absurd ⟨b2, b3⟩ (hno b b1)
        · exact (ld_i_neg hld q).symm
      rcases f2 with ⟨f3, f4⟩ | ⟨b, b1, b2, b3, b4, b5⟩
      · have e1 : xp_Search_firstLeading u (nI (x.2.2.1 i)) = -1 := f3
        simp only [e1, if_true, not_true_eq_false, false_implies, and_true, true_implies]
        exact ih i u (by omega) (by omega) hR he ho (LA_iff hL (no_of f4))
      · have e1 : xp_Search_firstLeading u (nI (x.2.2.1 i)) = nI b := b2
        have hne : ¬ nI b = -1 := nI_ne_m1 (by omega)
        simp only [e1, hne, if_false, not_false_eq_true, false_implies, true_and, true_implies]
        have hld : ld (2 * k) (EV v k) x.1 g (x.2.2.1 i) := ld_on b1 b4 (ld_i_ld b3)
        refine ih i (s4_wz u 12 (nI (x.2.2.1 i)) 1) (by omega) (by omega) hR he ho (LA_iff (LA_set hL (by omega)) (fun q => ?_))
        exact (ld_i_pos (by omega) hld q).symm
end LY
